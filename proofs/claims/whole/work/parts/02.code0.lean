theorem dd_get {c : ByteArray} {l : List (Nat × Instr × Nat)} (h : (l.all fun q => decide (decode c q.1 = .ok (q.2.1, q.2.2))) = true) (i : Nat) {pc n : Nat} {I : Instr} (e : l[i]? = some (pc, I, n)) : decode c pc = .ok (I, n) := by
  have := List.all_eq_true.mp h _ (List.mem_of_getElem? e)
  exact of_decide_eq_true this

theorem dm_X0_init_0 : (([(0, .aload_n 0, 1), (1, .invokespecial 3, 3), (4, .aload_n 0, 1), (5, .bipush 12, 2), (7, .newarray .int, 2), (9, .putfield 9, 3), (12, .aload_n 0, 1), (13, .bipush 12, 2), (15, .newarray .int, 2), (17, .putfield 15, 3), (20, .aload_n 0, 1), (21, .bipush 66, 2), (23, .newarray .int, 2), (25, .putfield 18, 3), (28, .aload_n 0, 1), (29, .bipush 66, 2), (31, .newarray .boolean, 2), (33, .putfield 21, 3), (36, .aload_n 0, 1), (37, .iconst 0, 1), (38, .putfield 25, 3), (41, .aload_n 0, 1), (42, .iconst 0, 1), (43, .putfield 29, 3), (46, .return_, 1)] : List (Nat × Instr × Nat)).all fun q => decide (decode cX0_init q.1 = .ok (q.2.1, q.2.2))) = true := by decide +kernel
theorem dX0_init_0 : decode cX0_init 0 = .ok (.aload_n 0, 1) := dd_get dm_X0_init_0 0 rfl
theorem dX0_init_1 : decode cX0_init 1 = .ok (.invokespecial 3, 3) := dd_get dm_X0_init_0 1 rfl
theorem dX0_init_4 : decode cX0_init 4 = .ok (.aload_n 0, 1) := dd_get dm_X0_init_0 2 rfl
theorem dX0_init_5 : decode cX0_init 5 = .ok (.bipush 12, 2) := dd_get dm_X0_init_0 3 rfl
theorem dX0_init_7 : decode cX0_init 7 = .ok (.newarray .int, 2) := dd_get dm_X0_init_0 4 rfl
theorem dX0_init_9 : decode cX0_init 9 = .ok (.putfield 9, 3) := dd_get dm_X0_init_0 5 rfl
theorem dX0_init_12 : decode cX0_init 12 = .ok (.aload_n 0, 1) := dd_get dm_X0_init_0 6 rfl
theorem dX0_init_13 : decode cX0_init 13 = .ok (.bipush 12, 2) := dd_get dm_X0_init_0 7 rfl
theorem dX0_init_15 : decode cX0_init 15 = .ok (.newarray .int, 2) := dd_get dm_X0_init_0 8 rfl
theorem dX0_init_17 : decode cX0_init 17 = .ok (.putfield 15, 3) := dd_get dm_X0_init_0 9 rfl
theorem dX0_init_20 : decode cX0_init 20 = .ok (.aload_n 0, 1) := dd_get dm_X0_init_0 10 rfl
theorem dX0_init_21 : decode cX0_init 21 = .ok (.bipush 66, 2) := dd_get dm_X0_init_0 11 rfl
theorem dX0_init_23 : decode cX0_init 23 = .ok (.newarray .int, 2) := dd_get dm_X0_init_0 12 rfl
theorem dX0_init_25 : decode cX0_init 25 = .ok (.putfield 18, 3) := dd_get dm_X0_init_0 13 rfl
theorem dX0_init_28 : decode cX0_init 28 = .ok (.aload_n 0, 1) := dd_get dm_X0_init_0 14 rfl
theorem dX0_init_29 : decode cX0_init 29 = .ok (.bipush 66, 2) := dd_get dm_X0_init_0 15 rfl
theorem dX0_init_31 : decode cX0_init 31 = .ok (.newarray .boolean, 2) := dd_get dm_X0_init_0 16 rfl
theorem dX0_init_33 : decode cX0_init 33 = .ok (.putfield 21, 3) := dd_get dm_X0_init_0 17 rfl
theorem dX0_init_36 : decode cX0_init 36 = .ok (.aload_n 0, 1) := dd_get dm_X0_init_0 18 rfl
theorem dX0_init_37 : decode cX0_init 37 = .ok (.iconst 0, 1) := dd_get dm_X0_init_0 19 rfl
theorem dX0_init_38 : decode cX0_init 38 = .ok (.putfield 25, 3) := dd_get dm_X0_init_0 20 rfl
theorem dX0_init_41 : decode cX0_init 41 = .ok (.aload_n 0, 1) := dd_get dm_X0_init_0 21 rfl
theorem dX0_init_42 : decode cX0_init 42 = .ok (.iconst 0, 1) := dd_get dm_X0_init_0 22 rfl
theorem dX0_init_43 : decode cX0_init 43 = .ok (.putfield 29, 3) := dd_get dm_X0_init_0 23 rfl
theorem dX0_init_46 : decode cX0_init 46 = .ok (.return_, 1) := dd_get dm_X0_init_0 24 rfl
theorem dm_X0_startEmpty_0 : (([(0, .aload_n 0, 1), (1, .getfield 9, 3), (4, .iconst 0, 1), (5, .invokestatic 33, 3), (8, .aload_n 0, 1), (9, .getfield 15, 3), (12, .iconst 0, 1), (13, .invokestatic 33, 3), (16, .aload_n 0, 1), (17, .iconst 0, 1), (18, .putfield 25, 3), (21, .aload_n 0, 1), (22, .iconst 0, 1), (23, .putfield 29, 3), (26, .return_, 1)] : List (Nat × Instr × Nat)).all fun q => decide (decode cX0_startEmpty q.1 = .ok (q.2.1, q.2.2))) = true := by decide +kernel
theorem dX0_startEmpty_0 : decode cX0_startEmpty 0 = .ok (.aload_n 0, 1) := dd_get dm_X0_startEmpty_0 0 rfl
theorem dX0_startEmpty_1 : decode cX0_startEmpty 1 = .ok (.getfield 9, 3) := dd_get dm_X0_startEmpty_0 1 rfl
theorem dX0_startEmpty_4 : decode cX0_startEmpty 4 = .ok (.iconst 0, 1) := dd_get dm_X0_startEmpty_0 2 rfl
theorem dX0_startEmpty_5 : decode cX0_startEmpty 5 = .ok (.invokestatic 33, 3) := dd_get dm_X0_startEmpty_0 3 rfl
theorem dX0_startEmpty_8 : decode cX0_startEmpty 8 = .ok (.aload_n 0, 1) := dd_get dm_X0_startEmpty_0 4 rfl
theorem dX0_startEmpty_9 : decode cX0_startEmpty 9 = .ok (.getfield 15, 3) := dd_get dm_X0_startEmpty_0 5 rfl
theorem dX0_startEmpty_12 : decode cX0_startEmpty 12 = .ok (.iconst 0, 1) := dd_get dm_X0_startEmpty_0 6 rfl
theorem dX0_startEmpty_13 : decode cX0_startEmpty 13 = .ok (.invokestatic 33, 3) := dd_get dm_X0_startEmpty_0 7 rfl
theorem dX0_startEmpty_16 : decode cX0_startEmpty 16 = .ok (.aload_n 0, 1) := dd_get dm_X0_startEmpty_0 8 rfl
theorem dX0_startEmpty_17 : decode cX0_startEmpty 17 = .ok (.iconst 0, 1) := dd_get dm_X0_startEmpty_0 9 rfl
theorem dX0_startEmpty_18 : decode cX0_startEmpty 18 = .ok (.putfield 25, 3) := dd_get dm_X0_startEmpty_0 10 rfl
theorem dX0_startEmpty_21 : decode cX0_startEmpty 21 = .ok (.aload_n 0, 1) := dd_get dm_X0_startEmpty_0 11 rfl
theorem dX0_startEmpty_22 : decode cX0_startEmpty 22 = .ok (.iconst 0, 1) := dd_get dm_X0_startEmpty_0 12 rfl
theorem dX0_startEmpty_23 : decode cX0_startEmpty 23 = .ok (.putfield 29, 3) := dd_get dm_X0_startEmpty_0 13 rfl
theorem dX0_startEmpty_26 : decode cX0_startEmpty 26 = .ok (.return_, 1) := dd_get dm_X0_startEmpty_0 14 rfl
theorem dm_X0_isFree_0 : (([(0, .aload_n 0, 1), (1, .getfield 9, 3), (4, .iload_n 1, 1), (5, .iaload, 1), (6, .aload_n 0, 1), (7, .getfield 15, 3), (10, .iload_n 1, 1), (11, .iaload, 1), (12, .ior, 1), (13, .iload_n 2, 1), (14, .invokestatic 39, 3), (17, .ifCond .ne 7, 3), (20, .iconst 1, 1), (21, .goto 4, 3), (24, .iconst 0, 1), (25, .ireturn, 1)] : List (Nat × Instr × Nat)).all fun q => decide (decode cX0_isFree q.1 = .ok (q.2.1, q.2.2))) = true := by decide +kernel
theorem dX0_isFree_0 : decode cX0_isFree 0 = .ok (.aload_n 0, 1) := dd_get dm_X0_isFree_0 0 rfl
theorem dX0_isFree_1 : decode cX0_isFree 1 = .ok (.getfield 9, 3) := dd_get dm_X0_isFree_0 1 rfl
theorem dX0_isFree_4 : decode cX0_isFree 4 = .ok (.iload_n 1, 1) := dd_get dm_X0_isFree_0 2 rfl
theorem dX0_isFree_5 : decode cX0_isFree 5 = .ok (.iaload, 1) := dd_get dm_X0_isFree_0 3 rfl
theorem dX0_isFree_6 : decode cX0_isFree 6 = .ok (.aload_n 0, 1) := dd_get dm_X0_isFree_0 4 rfl
theorem dX0_isFree_7 : decode cX0_isFree 7 = .ok (.getfield 15, 3) := dd_get dm_X0_isFree_0 5 rfl
theorem dX0_isFree_10 : decode cX0_isFree 10 = .ok (.iload_n 1, 1) := dd_get dm_X0_isFree_0 6 rfl
theorem dX0_isFree_11 : decode cX0_isFree 11 = .ok (.iaload, 1) := dd_get dm_X0_isFree_0 7 rfl
theorem dX0_isFree_12 : decode cX0_isFree 12 = .ok (.ior, 1) := dd_get dm_X0_isFree_0 8 rfl
theorem dX0_isFree_13 : decode cX0_isFree 13 = .ok (.iload_n 2, 1) := dd_get dm_X0_isFree_0 9 rfl
theorem dX0_isFree_14 : decode cX0_isFree 14 = .ok (.invokestatic 39, 3) := dd_get dm_X0_isFree_0 10 rfl
theorem dX0_isFree_17 : decode cX0_isFree 17 = .ok (.ifCond .ne 7, 3) := dd_get dm_X0_isFree_0 11 rfl
theorem dX0_isFree_20 : decode cX0_isFree 20 = .ok (.iconst 1, 1) := dd_get dm_X0_isFree_0 12 rfl
theorem dX0_isFree_21 : decode cX0_isFree 21 = .ok (.goto 4, 3) := dd_get dm_X0_isFree_0 13 rfl
theorem dX0_isFree_24 : decode cX0_isFree 24 = .ok (.iconst 0, 1) := dd_get dm_X0_isFree_0 14 rfl
theorem dX0_isFree_25 : decode cX0_isFree 25 = .ok (.ireturn, 1) := dd_get dm_X0_isFree_0 15 rfl
theorem dm_X0_splitBy_0 : (([(0, .aload_n 0, 1), (1, .getfield 25, 3), (4, .bipush 66, 2), (6, .if_icmp .lt 4, 3), (9, .return_, 1), (10, .aload_n 0, 1), (11, .getfield 18, 3), (14, .aload_n 0, 1), (15, .getfield 25, 3), (18, .iload_n 1, 1), (19, .iload_n 2, 1), (20, .invokestatic 43, 3), (23, .iastore, 1), (24, .aload_n 0, 1), (25, .getfield 21, 3), (28, .aload_n 0, 1), (29, .getfield 25, 3), (32, .iconst 0, 1), (33, .bastore, 1), (34, .aload_n 0, 1), (35, .aload_n 0, 1), (36, .getfield 9, 3), (39, .aload_n 0, 1), (40, .getfield 18, 3), (43, .aload_n 0, 1), (44, .getfield 25, 3), (47, .iaload, 1), (48, .invokevirtual 47, 3), (51, .aload_n 0, 1), (52, .dup, 1), (53, .getfield 25, 3), (56, .iconst 1, 1), (57, .iadd, 1), (58, .putfield 25, 3), (61, .return_, 1)] : List (Nat × Instr × Nat)).all fun q => decide (decode cX0_splitBy q.1 = .ok (q.2.1, q.2.2))) = true := by decide +kernel
theorem dX0_splitBy_0 : decode cX0_splitBy 0 = .ok (.aload_n 0, 1) := dd_get dm_X0_splitBy_0 0 rfl
theorem dX0_splitBy_1 : decode cX0_splitBy 1 = .ok (.getfield 25, 3) := dd_get dm_X0_splitBy_0 1 rfl
theorem dX0_splitBy_4 : decode cX0_splitBy 4 = .ok (.bipush 66, 2) := dd_get dm_X0_splitBy_0 2 rfl
theorem dX0_splitBy_6 : decode cX0_splitBy 6 = .ok (.if_icmp .lt 4, 3) := dd_get dm_X0_splitBy_0 3 rfl
theorem dX0_splitBy_9 : decode cX0_splitBy 9 = .ok (.return_, 1) := dd_get dm_X0_splitBy_0 4 rfl
theorem dX0_splitBy_10 : decode cX0_splitBy 10 = .ok (.aload_n 0, 1) := dd_get dm_X0_splitBy_0 5 rfl
theorem dX0_splitBy_11 : decode cX0_splitBy 11 = .ok (.getfield 18, 3) := dd_get dm_X0_splitBy_0 6 rfl
theorem dX0_splitBy_14 : decode cX0_splitBy 14 = .ok (.aload_n 0, 1) := dd_get dm_X0_splitBy_0 7 rfl
theorem dX0_splitBy_15 : decode cX0_splitBy 15 = .ok (.getfield 25, 3) := dd_get dm_X0_splitBy_0 8 rfl
theorem dX0_splitBy_18 : decode cX0_splitBy 18 = .ok (.iload_n 1, 1) := dd_get dm_X0_splitBy_0 9 rfl
theorem dX0_splitBy_19 : decode cX0_splitBy 19 = .ok (.iload_n 2, 1) := dd_get dm_X0_splitBy_0 10 rfl
theorem dX0_splitBy_20 : decode cX0_splitBy 20 = .ok (.invokestatic 43, 3) := dd_get dm_X0_splitBy_0 11 rfl
theorem dX0_splitBy_23 : decode cX0_splitBy 23 = .ok (.iastore, 1) := dd_get dm_X0_splitBy_0 12 rfl
theorem dX0_splitBy_24 : decode cX0_splitBy 24 = .ok (.aload_n 0, 1) := dd_get dm_X0_splitBy_0 13 rfl
theorem dX0_splitBy_25 : decode cX0_splitBy 25 = .ok (.getfield 21, 3) := dd_get dm_X0_splitBy_0 14 rfl
theorem dX0_splitBy_28 : decode cX0_splitBy 28 = .ok (.aload_n 0, 1) := dd_get dm_X0_splitBy_0 15 rfl
theorem dX0_splitBy_29 : decode cX0_splitBy 29 = .ok (.getfield 25, 3) := dd_get dm_X0_splitBy_0 16 rfl
theorem dX0_splitBy_32 : decode cX0_splitBy 32 = .ok (.iconst 0, 1) := dd_get dm_X0_splitBy_0 17 rfl
theorem dX0_splitBy_33 : decode cX0_splitBy 33 = .ok (.bastore, 1) := dd_get dm_X0_splitBy_0 18 rfl
theorem dX0_splitBy_34 : decode cX0_splitBy 34 = .ok (.aload_n 0, 1) := dd_get dm_X0_splitBy_0 19 rfl
theorem dX0_splitBy_35 : decode cX0_splitBy 35 = .ok (.aload_n 0, 1) := dd_get dm_X0_splitBy_0 20 rfl
theorem dX0_splitBy_36 : decode cX0_splitBy 36 = .ok (.getfield 9, 3) := dd_get dm_X0_splitBy_0 21 rfl
theorem dX0_splitBy_39 : decode cX0_splitBy 39 = .ok (.aload_n 0, 1) := dd_get dm_X0_splitBy_0 22 rfl
theorem dX0_splitBy_40 : decode cX0_splitBy 40 = .ok (.getfield 18, 3) := dd_get dm_X0_splitBy_0 23 rfl
theorem dX0_splitBy_43 : decode cX0_splitBy 43 = .ok (.aload_n 0, 1) := dd_get dm_X0_splitBy_0 24 rfl
theorem dX0_splitBy_44 : decode cX0_splitBy 44 = .ok (.getfield 25, 3) := dd_get dm_X0_splitBy_0 25 rfl
theorem dX0_splitBy_47 : decode cX0_splitBy 47 = .ok (.iaload, 1) := dd_get dm_X0_splitBy_0 26 rfl
theorem dX0_splitBy_48 : decode cX0_splitBy 48 = .ok (.invokevirtual 47, 3) := dd_get dm_X0_splitBy_0 27 rfl
theorem dX0_splitBy_51 : decode cX0_splitBy 51 = .ok (.aload_n 0, 1) := dd_get dm_X0_splitBy_0 28 rfl
theorem dX0_splitBy_52 : decode cX0_splitBy 52 = .ok (.dup, 1) := dd_get dm_X0_splitBy_0 29 rfl
theorem dX0_splitBy_53 : decode cX0_splitBy 53 = .ok (.getfield 25, 3) := dd_get dm_X0_splitBy_0 30 rfl
theorem dX0_splitBy_56 : decode cX0_splitBy 56 = .ok (.iconst 1, 1) := dd_get dm_X0_splitBy_0 31 rfl
theorem dX0_splitBy_57 : decode cX0_splitBy 57 = .ok (.iadd, 1) := dd_get dm_X0_splitBy_0 32 rfl
theorem dX0_splitBy_58 : decode cX0_splitBy 58 = .ok (.putfield 25, 3) := dd_get dm_X0_splitBy_0 33 rfl
theorem dX0_splitBy_61 : decode cX0_splitBy 61 = .ok (.return_, 1) := dd_get dm_X0_splitBy_0 34 rfl
theorem dm_X0_goOn_0 : (([(0, .aload_n 0, 1), (1, .getfield 25, 3), (4, .ifCond .le 47, 3), (7, .aload_n 0, 1), (8, .getfield 21, 3), (11, .aload_n 0, 1), (12, .getfield 25, 3), (15, .iconst 1, 1), (16, .isub, 1), (17, .baload, 1), (18, .ifCond .eq 33, 3), (21, .aload_n 0, 1), (22, .dup, 1), (23, .getfield 25, 3), (26, .iconst 1, 1), (27, .isub, 1), (28, .putfield 25, 3), (31, .aload_n 0, 1), (32, .aload_n 0, 1), (33, .getfield 15, 3), (36, .aload_n 0, 1), (37, .getfield 18, 3), (40, .aload_n 0, 1), (41, .getfield 25, 3), (44, .iaload, 1), (45, .invokevirtual 47, 3), (48, .goto (-48), 3), (51, .aload_n 0, 1), (52, .getfield 25, 3), (55, .ifCond .ne 9, 3), (58, .aload_n 0, 1), (59, .iconst 1, 1), (60, .putfield 29, 3), (63, .return_, 1), (64, .aload_n 0, 1), (65, .getfield 21, 3), (68, .aload_n 0, 1), (69, .getfield 25, 3), (72, .iconst 1, 1), (73, .isub, 1), (74, .iconst 1, 1), (75, .bastore, 1), (76, .aload_n 0, 1), (77, .aload_n 0, 1), (78, .getfield 9, 3), (81, .aload_n 0, 1), (82, .getfield 18, 3), (85, .aload_n 0, 1), (86, .getfield 25, 3), (89, .iconst 1, 1), (90, .isub, 1), (91, .iaload, 1), (92, .invokevirtual 47, 3), (95, .aload_n 0, 1), (96, .aload_n 0, 1), (97, .getfield 15, 3), (100, .aload_n 0, 1), (101, .getfield 18, 3), (104, .aload_n 0, 1), (105, .getfield 25, 3)] : List (Nat × Instr × Nat)).all fun q => decide (decode cX0_goOn q.1 = .ok (q.2.1, q.2.2))) = true := by decide +kernel
theorem dX0_goOn_0 : decode cX0_goOn 0 = .ok (.aload_n 0, 1) := dd_get dm_X0_goOn_0 0 rfl
theorem dX0_goOn_1 : decode cX0_goOn 1 = .ok (.getfield 25, 3) := dd_get dm_X0_goOn_0 1 rfl
theorem dX0_goOn_4 : decode cX0_goOn 4 = .ok (.ifCond .le 47, 3) := dd_get dm_X0_goOn_0 2 rfl
theorem dX0_goOn_7 : decode cX0_goOn 7 = .ok (.aload_n 0, 1) := dd_get dm_X0_goOn_0 3 rfl
theorem dX0_goOn_8 : decode cX0_goOn 8 = .ok (.getfield 21, 3) := dd_get dm_X0_goOn_0 4 rfl
theorem dX0_goOn_11 : decode cX0_goOn 11 = .ok (.aload_n 0, 1) := dd_get dm_X0_goOn_0 5 rfl
theorem dX0_goOn_12 : decode cX0_goOn 12 = .ok (.getfield 25, 3) := dd_get dm_X0_goOn_0 6 rfl
theorem dX0_goOn_15 : decode cX0_goOn 15 = .ok (.iconst 1, 1) := dd_get dm_X0_goOn_0 7 rfl
theorem dX0_goOn_16 : decode cX0_goOn 16 = .ok (.isub, 1) := dd_get dm_X0_goOn_0 8 rfl
theorem dX0_goOn_17 : decode cX0_goOn 17 = .ok (.baload, 1) := dd_get dm_X0_goOn_0 9 rfl
theorem dX0_goOn_18 : decode cX0_goOn 18 = .ok (.ifCond .eq 33, 3) := dd_get dm_X0_goOn_0 10 rfl
theorem dX0_goOn_21 : decode cX0_goOn 21 = .ok (.aload_n 0, 1) := dd_get dm_X0_goOn_0 11 rfl
theorem dX0_goOn_22 : decode cX0_goOn 22 = .ok (.dup, 1) := dd_get dm_X0_goOn_0 12 rfl
theorem dX0_goOn_23 : decode cX0_goOn 23 = .ok (.getfield 25, 3) := dd_get dm_X0_goOn_0 13 rfl
theorem dX0_goOn_26 : decode cX0_goOn 26 = .ok (.iconst 1, 1) := dd_get dm_X0_goOn_0 14 rfl
theorem dX0_goOn_27 : decode cX0_goOn 27 = .ok (.isub, 1) := dd_get dm_X0_goOn_0 15 rfl
theorem dX0_goOn_28 : decode cX0_goOn 28 = .ok (.putfield 25, 3) := dd_get dm_X0_goOn_0 16 rfl
theorem dX0_goOn_31 : decode cX0_goOn 31 = .ok (.aload_n 0, 1) := dd_get dm_X0_goOn_0 17 rfl
theorem dX0_goOn_32 : decode cX0_goOn 32 = .ok (.aload_n 0, 1) := dd_get dm_X0_goOn_0 18 rfl
theorem dX0_goOn_33 : decode cX0_goOn 33 = .ok (.getfield 15, 3) := dd_get dm_X0_goOn_0 19 rfl
theorem dX0_goOn_36 : decode cX0_goOn 36 = .ok (.aload_n 0, 1) := dd_get dm_X0_goOn_0 20 rfl
theorem dX0_goOn_37 : decode cX0_goOn 37 = .ok (.getfield 18, 3) := dd_get dm_X0_goOn_0 21 rfl
theorem dX0_goOn_40 : decode cX0_goOn 40 = .ok (.aload_n 0, 1) := dd_get dm_X0_goOn_0 22 rfl
theorem dX0_goOn_41 : decode cX0_goOn 41 = .ok (.getfield 25, 3) := dd_get dm_X0_goOn_0 23 rfl
theorem dX0_goOn_44 : decode cX0_goOn 44 = .ok (.iaload, 1) := dd_get dm_X0_goOn_0 24 rfl
theorem dX0_goOn_45 : decode cX0_goOn 45 = .ok (.invokevirtual 47, 3) := dd_get dm_X0_goOn_0 25 rfl
theorem dX0_goOn_48 : decode cX0_goOn 48 = .ok (.goto (-48), 3) := dd_get dm_X0_goOn_0 26 rfl
theorem dX0_goOn_51 : decode cX0_goOn 51 = .ok (.aload_n 0, 1) := dd_get dm_X0_goOn_0 27 rfl
theorem dX0_goOn_52 : decode cX0_goOn 52 = .ok (.getfield 25, 3) := dd_get dm_X0_goOn_0 28 rfl
theorem dX0_goOn_55 : decode cX0_goOn 55 = .ok (.ifCond .ne 9, 3) := dd_get dm_X0_goOn_0 29 rfl
theorem dX0_goOn_58 : decode cX0_goOn 58 = .ok (.aload_n 0, 1) := dd_get dm_X0_goOn_0 30 rfl
theorem dX0_goOn_59 : decode cX0_goOn 59 = .ok (.iconst 1, 1) := dd_get dm_X0_goOn_0 31 rfl
theorem dX0_goOn_60 : decode cX0_goOn 60 = .ok (.putfield 29, 3) := dd_get dm_X0_goOn_0 32 rfl
theorem dX0_goOn_63 : decode cX0_goOn 63 = .ok (.return_, 1) := dd_get dm_X0_goOn_0 33 rfl
theorem dX0_goOn_64 : decode cX0_goOn 64 = .ok (.aload_n 0, 1) := dd_get dm_X0_goOn_0 34 rfl
theorem dX0_goOn_65 : decode cX0_goOn 65 = .ok (.getfield 21, 3) := dd_get dm_X0_goOn_0 35 rfl
theorem dX0_goOn_68 : decode cX0_goOn 68 = .ok (.aload_n 0, 1) := dd_get dm_X0_goOn_0 36 rfl
theorem dX0_goOn_69 : decode cX0_goOn 69 = .ok (.getfield 25, 3) := dd_get dm_X0_goOn_0 37 rfl
theorem dX0_goOn_72 : decode cX0_goOn 72 = .ok (.iconst 1, 1) := dd_get dm_X0_goOn_0 38 rfl
theorem dX0_goOn_73 : decode cX0_goOn 73 = .ok (.isub, 1) := dd_get dm_X0_goOn_0 39 rfl
theorem dX0_goOn_74 : decode cX0_goOn 74 = .ok (.iconst 1, 1) := dd_get dm_X0_goOn_0 40 rfl
theorem dX0_goOn_75 : decode cX0_goOn 75 = .ok (.bastore, 1) := dd_get dm_X0_goOn_0 41 rfl
theorem dX0_goOn_76 : decode cX0_goOn 76 = .ok (.aload_n 0, 1) := dd_get dm_X0_goOn_0 42 rfl
theorem dX0_goOn_77 : decode cX0_goOn 77 = .ok (.aload_n 0, 1) := dd_get dm_X0_goOn_0 43 rfl
theorem dX0_goOn_78 : decode cX0_goOn 78 = .ok (.getfield 9, 3) := dd_get dm_X0_goOn_0 44 rfl
theorem dX0_goOn_81 : decode cX0_goOn 81 = .ok (.aload_n 0, 1) := dd_get dm_X0_goOn_0 45 rfl
theorem dX0_goOn_82 : decode cX0_goOn 82 = .ok (.getfield 18, 3) := dd_get dm_X0_goOn_0 46 rfl
theorem dX0_goOn_85 : decode cX0_goOn 85 = .ok (.aload_n 0, 1) := dd_get dm_X0_goOn_0 47 rfl
theorem dX0_goOn_86 : decode cX0_goOn 86 = .ok (.getfield 25, 3) := dd_get dm_X0_goOn_0 48 rfl
theorem dX0_goOn_89 : decode cX0_goOn 89 = .ok (.iconst 1, 1) := dd_get dm_X0_goOn_0 49 rfl
theorem dX0_goOn_90 : decode cX0_goOn 90 = .ok (.isub, 1) := dd_get dm_X0_goOn_0 50 rfl
theorem dX0_goOn_91 : decode cX0_goOn 91 = .ok (.iaload, 1) := dd_get dm_X0_goOn_0 51 rfl
theorem dX0_goOn_92 : decode cX0_goOn 92 = .ok (.invokevirtual 47, 3) := dd_get dm_X0_goOn_0 52 rfl
theorem dX0_goOn_95 : decode cX0_goOn 95 = .ok (.aload_n 0, 1) := dd_get dm_X0_goOn_0 53 rfl
theorem dX0_goOn_96 : decode cX0_goOn 96 = .ok (.aload_n 0, 1) := dd_get dm_X0_goOn_0 54 rfl
theorem dX0_goOn_97 : decode cX0_goOn 97 = .ok (.getfield 15, 3) := dd_get dm_X0_goOn_0 55 rfl
theorem dX0_goOn_100 : decode cX0_goOn 100 = .ok (.aload_n 0, 1) := dd_get dm_X0_goOn_0 56 rfl
theorem dX0_goOn_101 : decode cX0_goOn 101 = .ok (.getfield 18, 3) := dd_get dm_X0_goOn_0 57 rfl
theorem dX0_goOn_104 : decode cX0_goOn 104 = .ok (.aload_n 0, 1) := dd_get dm_X0_goOn_0 58 rfl
theorem dX0_goOn_105 : decode cX0_goOn 105 = .ok (.getfield 25, 3) := dd_get dm_X0_goOn_0 59 rfl
theorem dm_X0_goOn_1 : (([(108, .iconst 1, 1), (109, .isub, 1), (110, .iaload, 1), (111, .invokevirtual 47, 3), (114, .return_, 1)] : List (Nat × Instr × Nat)).all fun q => decide (decode cX0_goOn q.1 = .ok (q.2.1, q.2.2))) = true := by decide +kernel
theorem dX0_goOn_108 : decode cX0_goOn 108 = .ok (.iconst 1, 1) := dd_get dm_X0_goOn_1 0 rfl
theorem dX0_goOn_109 : decode cX0_goOn 109 = .ok (.isub, 1) := dd_get dm_X0_goOn_1 1 rfl
theorem dX0_goOn_110 : decode cX0_goOn 110 = .ok (.iaload, 1) := dd_get dm_X0_goOn_1 2 rfl
theorem dX0_goOn_111 : decode cX0_goOn 111 = .ok (.invokevirtual 47, 3) := dd_get dm_X0_goOn_1 3 rfl
theorem dX0_goOn_114 : decode cX0_goOn 114 = .ok (.return_, 1) := dd_get dm_X0_goOn_1 4 rfl
theorem dm_X0_toggle_0 : (([(0, .iload_n 2, 1), (1, .invokestatic 50, 3), (4, .istore_n 3, 1), (5, .iload_n 2, 1), (6, .invokestatic 54, 3), (9, .istore 4, 2), (11, .aload_n 1, 1), (12, .iload_n 3, 1), (13, .dup2, 1), (14, .iaload, 1), (15, .iconst 1, 1), (16, .iload 4, 2), (18, .ishl, 1), (19, .ixor, 1), (20, .iastore, 1), (21, .aload_n 1, 1), (22, .iload 4, 2), (24, .dup2, 1), (25, .iaload, 1), (26, .iconst 1, 1), (27, .iload_n 3, 1), (28, .ishl, 1), (29, .ixor, 1), (30, .iastore, 1), (31, .return_, 1)] : List (Nat × Instr × Nat)).all fun q => decide (decode cX0_toggle q.1 = .ok (q.2.1, q.2.2))) = true := by decide +kernel
theorem dX0_toggle_0 : decode cX0_toggle 0 = .ok (.iload_n 2, 1) := dd_get dm_X0_toggle_0 0 rfl
theorem dX0_toggle_1 : decode cX0_toggle 1 = .ok (.invokestatic 50, 3) := dd_get dm_X0_toggle_0 1 rfl
theorem dX0_toggle_4 : decode cX0_toggle 4 = .ok (.istore_n 3, 1) := dd_get dm_X0_toggle_0 2 rfl
theorem dX0_toggle_5 : decode cX0_toggle 5 = .ok (.iload_n 2, 1) := dd_get dm_X0_toggle_0 3 rfl
theorem dX0_toggle_6 : decode cX0_toggle 6 = .ok (.invokestatic 54, 3) := dd_get dm_X0_toggle_0 4 rfl
theorem dX0_toggle_9 : decode cX0_toggle 9 = .ok (.istore 4, 2) := dd_get dm_X0_toggle_0 5 rfl
theorem dX0_toggle_11 : decode cX0_toggle 11 = .ok (.aload_n 1, 1) := dd_get dm_X0_toggle_0 6 rfl
theorem dX0_toggle_12 : decode cX0_toggle 12 = .ok (.iload_n 3, 1) := dd_get dm_X0_toggle_0 7 rfl
theorem dX0_toggle_13 : decode cX0_toggle 13 = .ok (.dup2, 1) := dd_get dm_X0_toggle_0 8 rfl
theorem dX0_toggle_14 : decode cX0_toggle 14 = .ok (.iaload, 1) := dd_get dm_X0_toggle_0 9 rfl
theorem dX0_toggle_15 : decode cX0_toggle 15 = .ok (.iconst 1, 1) := dd_get dm_X0_toggle_0 10 rfl
theorem dX0_toggle_16 : decode cX0_toggle 16 = .ok (.iload 4, 2) := dd_get dm_X0_toggle_0 11 rfl
theorem dX0_toggle_18 : decode cX0_toggle 18 = .ok (.ishl, 1) := dd_get dm_X0_toggle_0 12 rfl
theorem dX0_toggle_19 : decode cX0_toggle 19 = .ok (.ixor, 1) := dd_get dm_X0_toggle_0 13 rfl
theorem dX0_toggle_20 : decode cX0_toggle 20 = .ok (.iastore, 1) := dd_get dm_X0_toggle_0 14 rfl
theorem dX0_toggle_21 : decode cX0_toggle 21 = .ok (.aload_n 1, 1) := dd_get dm_X0_toggle_0 15 rfl
theorem dX0_toggle_22 : decode cX0_toggle 22 = .ok (.iload 4, 2) := dd_get dm_X0_toggle_0 16 rfl
theorem dX0_toggle_24 : decode cX0_toggle 24 = .ok (.dup2, 1) := dd_get dm_X0_toggle_0 17 rfl
theorem dX0_toggle_25 : decode cX0_toggle 25 = .ok (.iaload, 1) := dd_get dm_X0_toggle_0 18 rfl
theorem dX0_toggle_26 : decode cX0_toggle 26 = .ok (.iconst 1, 1) := dd_get dm_X0_toggle_0 19 rfl
theorem dX0_toggle_27 : decode cX0_toggle 27 = .ok (.iload_n 3, 1) := dd_get dm_X0_toggle_0 20 rfl
theorem dX0_toggle_28 : decode cX0_toggle 28 = .ok (.ishl, 1) := dd_get dm_X0_toggle_0 21 rfl
theorem dX0_toggle_29 : decode cX0_toggle 29 = .ok (.ixor, 1) := dd_get dm_X0_toggle_0 22 rfl
theorem dX0_toggle_30 : decode cX0_toggle 30 = .ok (.iastore, 1) := dd_get dm_X0_toggle_0 23 rfl
theorem dX0_toggle_31 : decode cX0_toggle 31 = .ok (.return_, 1) := dd_get dm_X0_toggle_0 24 rfl
theorem dm_X0_ringOf_0 : (([(0, .iconst 1, 1), (1, .iload_n 1, 1), (2, .ishl, 1), (3, .istore_n 2, 1), (4, .iconst 0, 1), (5, .istore_n 3, 1), (6, .iconst 0, 1), (7, .istore 4, 2), (9, .iload 4, 2), (11, .bipush 12, 2), (13, .if_icmp .ge 51, 3), (16, .iload_n 2, 1), (17, .iload_n 3, 1), (18, .if_icmp .eq 46, 3), (21, .iload_n 2, 1), (22, .istore_n 3, 1), (23, .iconst 0, 1), (24, .istore 5, 2), (26, .iload 5, 2), (28, .bipush 12, 2), (30, .if_icmp .ge 28, 3), (33, .iload_n 3, 1), (34, .iload 5, 2), (36, .invokestatic 39, 3), (39, .ifCond .eq 13, 3), (42, .iload_n 2, 1), (43, .aload_n 0, 1), (44, .getfield 9, 3), (47, .iload 5, 2), (49, .iaload, 1), (50, .ior, 1), (51, .istore_n 2, 1), (52, .iinc 5 1, 3), (55, .goto (-29), 3), (58, .iinc 4 1, 3), (61, .goto (-52), 3), (64, .iload_n 2, 1), (65, .ireturn, 1)] : List (Nat × Instr × Nat)).all fun q => decide (decode cX0_ringOf q.1 = .ok (q.2.1, q.2.2))) = true := by decide +kernel
theorem dX0_ringOf_0 : decode cX0_ringOf 0 = .ok (.iconst 1, 1) := dd_get dm_X0_ringOf_0 0 rfl
theorem dX0_ringOf_1 : decode cX0_ringOf 1 = .ok (.iload_n 1, 1) := dd_get dm_X0_ringOf_0 1 rfl
theorem dX0_ringOf_2 : decode cX0_ringOf 2 = .ok (.ishl, 1) := dd_get dm_X0_ringOf_0 2 rfl
theorem dX0_ringOf_3 : decode cX0_ringOf 3 = .ok (.istore_n 2, 1) := dd_get dm_X0_ringOf_0 3 rfl
theorem dX0_ringOf_4 : decode cX0_ringOf 4 = .ok (.iconst 0, 1) := dd_get dm_X0_ringOf_0 4 rfl
theorem dX0_ringOf_5 : decode cX0_ringOf 5 = .ok (.istore_n 3, 1) := dd_get dm_X0_ringOf_0 5 rfl
theorem dX0_ringOf_6 : decode cX0_ringOf 6 = .ok (.iconst 0, 1) := dd_get dm_X0_ringOf_0 6 rfl
theorem dX0_ringOf_7 : decode cX0_ringOf 7 = .ok (.istore 4, 2) := dd_get dm_X0_ringOf_0 7 rfl
theorem dX0_ringOf_9 : decode cX0_ringOf 9 = .ok (.iload 4, 2) := dd_get dm_X0_ringOf_0 8 rfl
theorem dX0_ringOf_11 : decode cX0_ringOf 11 = .ok (.bipush 12, 2) := dd_get dm_X0_ringOf_0 9 rfl
theorem dX0_ringOf_13 : decode cX0_ringOf 13 = .ok (.if_icmp .ge 51, 3) := dd_get dm_X0_ringOf_0 10 rfl
theorem dX0_ringOf_16 : decode cX0_ringOf 16 = .ok (.iload_n 2, 1) := dd_get dm_X0_ringOf_0 11 rfl
theorem dX0_ringOf_17 : decode cX0_ringOf 17 = .ok (.iload_n 3, 1) := dd_get dm_X0_ringOf_0 12 rfl
theorem dX0_ringOf_18 : decode cX0_ringOf 18 = .ok (.if_icmp .eq 46, 3) := dd_get dm_X0_ringOf_0 13 rfl
theorem dX0_ringOf_21 : decode cX0_ringOf 21 = .ok (.iload_n 2, 1) := dd_get dm_X0_ringOf_0 14 rfl
theorem dX0_ringOf_22 : decode cX0_ringOf 22 = .ok (.istore_n 3, 1) := dd_get dm_X0_ringOf_0 15 rfl
theorem dX0_ringOf_23 : decode cX0_ringOf 23 = .ok (.iconst 0, 1) := dd_get dm_X0_ringOf_0 16 rfl
theorem dX0_ringOf_24 : decode cX0_ringOf 24 = .ok (.istore 5, 2) := dd_get dm_X0_ringOf_0 17 rfl
theorem dX0_ringOf_26 : decode cX0_ringOf 26 = .ok (.iload 5, 2) := dd_get dm_X0_ringOf_0 18 rfl
theorem dX0_ringOf_28 : decode cX0_ringOf 28 = .ok (.bipush 12, 2) := dd_get dm_X0_ringOf_0 19 rfl
theorem dX0_ringOf_30 : decode cX0_ringOf 30 = .ok (.if_icmp .ge 28, 3) := dd_get dm_X0_ringOf_0 20 rfl
theorem dX0_ringOf_33 : decode cX0_ringOf 33 = .ok (.iload_n 3, 1) := dd_get dm_X0_ringOf_0 21 rfl
theorem dX0_ringOf_34 : decode cX0_ringOf 34 = .ok (.iload 5, 2) := dd_get dm_X0_ringOf_0 22 rfl
theorem dX0_ringOf_36 : decode cX0_ringOf 36 = .ok (.invokestatic 39, 3) := dd_get dm_X0_ringOf_0 23 rfl
theorem dX0_ringOf_39 : decode cX0_ringOf 39 = .ok (.ifCond .eq 13, 3) := dd_get dm_X0_ringOf_0 24 rfl
theorem dX0_ringOf_42 : decode cX0_ringOf 42 = .ok (.iload_n 2, 1) := dd_get dm_X0_ringOf_0 25 rfl
theorem dX0_ringOf_43 : decode cX0_ringOf 43 = .ok (.aload_n 0, 1) := dd_get dm_X0_ringOf_0 26 rfl
theorem dX0_ringOf_44 : decode cX0_ringOf 44 = .ok (.getfield 9, 3) := dd_get dm_X0_ringOf_0 27 rfl
theorem dX0_ringOf_47 : decode cX0_ringOf 47 = .ok (.iload 5, 2) := dd_get dm_X0_ringOf_0 28 rfl
theorem dX0_ringOf_49 : decode cX0_ringOf 49 = .ok (.iaload, 1) := dd_get dm_X0_ringOf_0 29 rfl
theorem dX0_ringOf_50 : decode cX0_ringOf 50 = .ok (.ior, 1) := dd_get dm_X0_ringOf_0 30 rfl
theorem dX0_ringOf_51 : decode cX0_ringOf 51 = .ok (.istore_n 2, 1) := dd_get dm_X0_ringOf_0 31 rfl
theorem dX0_ringOf_52 : decode cX0_ringOf 52 = .ok (.iinc 5 1, 3) := dd_get dm_X0_ringOf_0 32 rfl
theorem dX0_ringOf_55 : decode cX0_ringOf 55 = .ok (.goto (-29), 3) := dd_get dm_X0_ringOf_0 33 rfl
theorem dX0_ringOf_58 : decode cX0_ringOf 58 = .ok (.iinc 4 1, 3) := dd_get dm_X0_ringOf_0 34 rfl
theorem dX0_ringOf_61 : decode cX0_ringOf 61 = .ok (.goto (-52), 3) := dd_get dm_X0_ringOf_0 35 rfl
theorem dX0_ringOf_64 : decode cX0_ringOf 64 = .ok (.iload_n 2, 1) := dd_get dm_X0_ringOf_0 36 rfl
theorem dX0_ringOf_65 : decode cX0_ringOf 65 = .ok (.ireturn, 1) := dd_get dm_X0_ringOf_0 37 rfl
theorem dm_X1_init_0 : (([(0, .aload_n 0, 1), (1, .invokespecial 3, 3), (4, .aload_n 0, 1), (5, .aload_n 1, 1), (6, .putfield 9, 3), (9, .aload_n 0, 1), (10, .aload_n 2, 1), (11, .putfield 15, 3), (14, .aload_n 0, 1), (15, .aload_n 3, 1), (16, .putfield 19, 3), (19, .return_, 1)] : List (Nat × Instr × Nat)).all fun q => decide (decode cX1_init q.1 = .ok (q.2.1, q.2.2))) = true := by decide +kernel
theorem dX1_init_0 : decode cX1_init 0 = .ok (.aload_n 0, 1) := dd_get dm_X1_init_0 0 rfl
theorem dX1_init_1 : decode cX1_init 1 = .ok (.invokespecial 3, 3) := dd_get dm_X1_init_0 1 rfl
theorem dX1_init_4 : decode cX1_init 4 = .ok (.aload_n 0, 1) := dd_get dm_X1_init_0 2 rfl
theorem dX1_init_5 : decode cX1_init 5 = .ok (.aload_n 1, 1) := dd_get dm_X1_init_0 3 rfl
theorem dX1_init_6 : decode cX1_init 6 = .ok (.putfield 9, 3) := dd_get dm_X1_init_0 4 rfl
theorem dX1_init_9 : decode cX1_init 9 = .ok (.aload_n 0, 1) := dd_get dm_X1_init_0 5 rfl
theorem dX1_init_10 : decode cX1_init 10 = .ok (.aload_n 2, 1) := dd_get dm_X1_init_0 6 rfl
theorem dX1_init_11 : decode cX1_init 11 = .ok (.putfield 15, 3) := dd_get dm_X1_init_0 7 rfl
theorem dX1_init_14 : decode cX1_init 14 = .ok (.aload_n 0, 1) := dd_get dm_X1_init_0 8 rfl
theorem dX1_init_15 : decode cX1_init 15 = .ok (.aload_n 3, 1) := dd_get dm_X1_init_0 9 rfl
theorem dX1_init_16 : decode cX1_init 16 = .ok (.putfield 19, 3) := dd_get dm_X1_init_0 10 rfl
theorem dX1_init_19 : decode cX1_init 19 = .ok (.return_, 1) := dd_get dm_X1_init_0 11 rfl
theorem dm_X1_wrongLine_0 : (([(0, .iconst 0, 1), (1, .istore_n 3, 1), (2, .iload_n 3, 1), (3, .aload_n 1, 1), (4, .getfield 23, 3), (7, .if_icmp .ge 53, 3), (10, .aload_n 0, 1), (11, .getfield 15, 3), (14, .getfield 29, 3), (17, .ifCond .ne 29, 3), (20, .aload_n 0, 1), (21, .aload_n 1, 1), (22, .getfield 35, 3), (25, .iload_n 3, 1), (26, .iaload, 1), (27, .aload_n 1, 1), (28, .getfield 39, 3), (31, .iload_n 3, 1), (32, .iaload, 1), (33, .aload_n 1, 1), (34, .getfield 42, 3), (37, .iload_n 3, 1), (38, .iaload, 1), (39, .iload_n 2, 1), (40, .invokevirtual 45, 3), (43, .ifCond .ne 5, 3), (46, .iload_n 3, 1), (47, .ireturn, 1), (48, .aload_n 0, 1), (49, .aload_n 1, 1), (50, .iload_n 3, 1), (51, .invokevirtual 49, 3), (54, .iinc 3 1, 3), (57, .goto (-55), 3), (60, .aload_n 0, 1), (61, .getfield 15, 3), (64, .getfield 29, 3), (67, .ifCond .eq 7, 3), (70, .iconst (-1), 1), (71, .goto 7, 3), (74, .aload_n 1, 1), (75, .getfield 23, 3), (78, .ireturn, 1)] : List (Nat × Instr × Nat)).all fun q => decide (decode cX1_wrongLine q.1 = .ok (q.2.1, q.2.2))) = true := by decide +kernel
theorem dX1_wrongLine_0 : decode cX1_wrongLine 0 = .ok (.iconst 0, 1) := dd_get dm_X1_wrongLine_0 0 rfl
theorem dX1_wrongLine_1 : decode cX1_wrongLine 1 = .ok (.istore_n 3, 1) := dd_get dm_X1_wrongLine_0 1 rfl
theorem dX1_wrongLine_2 : decode cX1_wrongLine 2 = .ok (.iload_n 3, 1) := dd_get dm_X1_wrongLine_0 2 rfl
theorem dX1_wrongLine_3 : decode cX1_wrongLine 3 = .ok (.aload_n 1, 1) := dd_get dm_X1_wrongLine_0 3 rfl
theorem dX1_wrongLine_4 : decode cX1_wrongLine 4 = .ok (.getfield 23, 3) := dd_get dm_X1_wrongLine_0 4 rfl
theorem dX1_wrongLine_7 : decode cX1_wrongLine 7 = .ok (.if_icmp .ge 53, 3) := dd_get dm_X1_wrongLine_0 5 rfl
theorem dX1_wrongLine_10 : decode cX1_wrongLine 10 = .ok (.aload_n 0, 1) := dd_get dm_X1_wrongLine_0 6 rfl
theorem dX1_wrongLine_11 : decode cX1_wrongLine 11 = .ok (.getfield 15, 3) := dd_get dm_X1_wrongLine_0 7 rfl
theorem dX1_wrongLine_14 : decode cX1_wrongLine 14 = .ok (.getfield 29, 3) := dd_get dm_X1_wrongLine_0 8 rfl
theorem dX1_wrongLine_17 : decode cX1_wrongLine 17 = .ok (.ifCond .ne 29, 3) := dd_get dm_X1_wrongLine_0 9 rfl
theorem dX1_wrongLine_20 : decode cX1_wrongLine 20 = .ok (.aload_n 0, 1) := dd_get dm_X1_wrongLine_0 10 rfl
theorem dX1_wrongLine_21 : decode cX1_wrongLine 21 = .ok (.aload_n 1, 1) := dd_get dm_X1_wrongLine_0 11 rfl
theorem dX1_wrongLine_22 : decode cX1_wrongLine 22 = .ok (.getfield 35, 3) := dd_get dm_X1_wrongLine_0 12 rfl
theorem dX1_wrongLine_25 : decode cX1_wrongLine 25 = .ok (.iload_n 3, 1) := dd_get dm_X1_wrongLine_0 13 rfl
theorem dX1_wrongLine_26 : decode cX1_wrongLine 26 = .ok (.iaload, 1) := dd_get dm_X1_wrongLine_0 14 rfl
theorem dX1_wrongLine_27 : decode cX1_wrongLine 27 = .ok (.aload_n 1, 1) := dd_get dm_X1_wrongLine_0 15 rfl
theorem dX1_wrongLine_28 : decode cX1_wrongLine 28 = .ok (.getfield 39, 3) := dd_get dm_X1_wrongLine_0 16 rfl
theorem dX1_wrongLine_31 : decode cX1_wrongLine 31 = .ok (.iload_n 3, 1) := dd_get dm_X1_wrongLine_0 17 rfl
theorem dX1_wrongLine_32 : decode cX1_wrongLine 32 = .ok (.iaload, 1) := dd_get dm_X1_wrongLine_0 18 rfl
theorem dX1_wrongLine_33 : decode cX1_wrongLine 33 = .ok (.aload_n 1, 1) := dd_get dm_X1_wrongLine_0 19 rfl
theorem dX1_wrongLine_34 : decode cX1_wrongLine 34 = .ok (.getfield 42, 3) := dd_get dm_X1_wrongLine_0 20 rfl
theorem dX1_wrongLine_37 : decode cX1_wrongLine 37 = .ok (.iload_n 3, 1) := dd_get dm_X1_wrongLine_0 21 rfl
theorem dX1_wrongLine_38 : decode cX1_wrongLine 38 = .ok (.iaload, 1) := dd_get dm_X1_wrongLine_0 22 rfl
theorem dX1_wrongLine_39 : decode cX1_wrongLine 39 = .ok (.iload_n 2, 1) := dd_get dm_X1_wrongLine_0 23 rfl
theorem dX1_wrongLine_40 : decode cX1_wrongLine 40 = .ok (.invokevirtual 45, 3) := dd_get dm_X1_wrongLine_0 24 rfl
theorem dX1_wrongLine_43 : decode cX1_wrongLine 43 = .ok (.ifCond .ne 5, 3) := dd_get dm_X1_wrongLine_0 25 rfl
theorem dX1_wrongLine_46 : decode cX1_wrongLine 46 = .ok (.iload_n 3, 1) := dd_get dm_X1_wrongLine_0 26 rfl
theorem dX1_wrongLine_47 : decode cX1_wrongLine 47 = .ok (.ireturn, 1) := dd_get dm_X1_wrongLine_0 27 rfl
theorem dX1_wrongLine_48 : decode cX1_wrongLine 48 = .ok (.aload_n 0, 1) := dd_get dm_X1_wrongLine_0 28 rfl
theorem dX1_wrongLine_49 : decode cX1_wrongLine 49 = .ok (.aload_n 1, 1) := dd_get dm_X1_wrongLine_0 29 rfl
theorem dX1_wrongLine_50 : decode cX1_wrongLine 50 = .ok (.iload_n 3, 1) := dd_get dm_X1_wrongLine_0 30 rfl
theorem dX1_wrongLine_51 : decode cX1_wrongLine 51 = .ok (.invokevirtual 49, 3) := dd_get dm_X1_wrongLine_0 31 rfl
theorem dX1_wrongLine_54 : decode cX1_wrongLine 54 = .ok (.iinc 3 1, 3) := dd_get dm_X1_wrongLine_0 32 rfl
theorem dX1_wrongLine_57 : decode cX1_wrongLine 57 = .ok (.goto (-55), 3) := dd_get dm_X1_wrongLine_0 33 rfl
theorem dX1_wrongLine_60 : decode cX1_wrongLine 60 = .ok (.aload_n 0, 1) := dd_get dm_X1_wrongLine_0 34 rfl
theorem dX1_wrongLine_61 : decode cX1_wrongLine 61 = .ok (.getfield 15, 3) := dd_get dm_X1_wrongLine_0 35 rfl
theorem dX1_wrongLine_64 : decode cX1_wrongLine 64 = .ok (.getfield 29, 3) := dd_get dm_X1_wrongLine_0 36 rfl
theorem dX1_wrongLine_67 : decode cX1_wrongLine 67 = .ok (.ifCond .eq 7, 3) := dd_get dm_X1_wrongLine_0 37 rfl
theorem dX1_wrongLine_70 : decode cX1_wrongLine 70 = .ok (.iconst (-1), 1) := dd_get dm_X1_wrongLine_0 38 rfl
theorem dX1_wrongLine_71 : decode cX1_wrongLine 71 = .ok (.goto 7, 3) := dd_get dm_X1_wrongLine_0 39 rfl
theorem dX1_wrongLine_74 : decode cX1_wrongLine 74 = .ok (.aload_n 1, 1) := dd_get dm_X1_wrongLine_0 40 rfl
theorem dX1_wrongLine_75 : decode cX1_wrongLine 75 = .ok (.getfield 23, 3) := dd_get dm_X1_wrongLine_0 41 rfl
theorem dX1_wrongLine_78 : decode cX1_wrongLine 78 = .ok (.ireturn, 1) := dd_get dm_X1_wrongLine_0 42 rfl
theorem dm_X1_write_0 : (([(0, .aload_n 1, 1), (1, .iconst 0, 1), (2, .putfield 23, 3), (5, .iconst 0, 1), (6, .istore_n 3, 1), (7, .iload_n 3, 1), (8, .sipush 400, 3), (11, .if_icmp .ge 36, 3), (14, .aload_n 0, 1), (15, .getfield 15, 3), (18, .getfield 29, 3), (21, .ifCond .ne 26, 3), (24, .aload_n 0, 1), (25, .aload_n 1, 1), (26, .iload_n 2, 1), (27, .invokevirtual 53, 3), (30, .ifCond .ne 5, 3), (33, .iconst 0, 1), (34, .ireturn, 1), (35, .aload_n 0, 1), (36, .aload_n 1, 1), (37, .iload_n 3, 1), (38, .invokevirtual 49, 3), (41, .iinc 3 1, 3), (44, .goto (-37), 3), (47, .aload_n 0, 1), (48, .getfield 15, 3), (51, .getfield 29, 3), (54, .ireturn, 1)] : List (Nat × Instr × Nat)).all fun q => decide (decode cX1_write q.1 = .ok (q.2.1, q.2.2))) = true := by decide +kernel
theorem dX1_write_0 : decode cX1_write 0 = .ok (.aload_n 1, 1) := dd_get dm_X1_write_0 0 rfl
theorem dX1_write_1 : decode cX1_write 1 = .ok (.iconst 0, 1) := dd_get dm_X1_write_0 1 rfl
theorem dX1_write_2 : decode cX1_write 2 = .ok (.putfield 23, 3) := dd_get dm_X1_write_0 2 rfl
theorem dX1_write_5 : decode cX1_write 5 = .ok (.iconst 0, 1) := dd_get dm_X1_write_0 3 rfl
theorem dX1_write_6 : decode cX1_write 6 = .ok (.istore_n 3, 1) := dd_get dm_X1_write_0 4 rfl
theorem dX1_write_7 : decode cX1_write 7 = .ok (.iload_n 3, 1) := dd_get dm_X1_write_0 5 rfl
theorem dX1_write_8 : decode cX1_write 8 = .ok (.sipush 400, 3) := dd_get dm_X1_write_0 6 rfl
theorem dX1_write_11 : decode cX1_write 11 = .ok (.if_icmp .ge 36, 3) := dd_get dm_X1_write_0 7 rfl
theorem dX1_write_14 : decode cX1_write 14 = .ok (.aload_n 0, 1) := dd_get dm_X1_write_0 8 rfl
theorem dX1_write_15 : decode cX1_write 15 = .ok (.getfield 15, 3) := dd_get dm_X1_write_0 9 rfl
theorem dX1_write_18 : decode cX1_write 18 = .ok (.getfield 29, 3) := dd_get dm_X1_write_0 10 rfl
theorem dX1_write_21 : decode cX1_write 21 = .ok (.ifCond .ne 26, 3) := dd_get dm_X1_write_0 11 rfl
theorem dX1_write_24 : decode cX1_write 24 = .ok (.aload_n 0, 1) := dd_get dm_X1_write_0 12 rfl
theorem dX1_write_25 : decode cX1_write 25 = .ok (.aload_n 1, 1) := dd_get dm_X1_write_0 13 rfl
theorem dX1_write_26 : decode cX1_write 26 = .ok (.iload_n 2, 1) := dd_get dm_X1_write_0 14 rfl
theorem dX1_write_27 : decode cX1_write 27 = .ok (.invokevirtual 53, 3) := dd_get dm_X1_write_0 15 rfl
theorem dX1_write_30 : decode cX1_write 30 = .ok (.ifCond .ne 5, 3) := dd_get dm_X1_write_0 16 rfl
theorem dX1_write_33 : decode cX1_write 33 = .ok (.iconst 0, 1) := dd_get dm_X1_write_0 17 rfl
theorem dX1_write_34 : decode cX1_write 34 = .ok (.ireturn, 1) := dd_get dm_X1_write_0 18 rfl
theorem dX1_write_35 : decode cX1_write 35 = .ok (.aload_n 0, 1) := dd_get dm_X1_write_0 19 rfl
theorem dX1_write_36 : decode cX1_write 36 = .ok (.aload_n 1, 1) := dd_get dm_X1_write_0 20 rfl
theorem dX1_write_37 : decode cX1_write 37 = .ok (.iload_n 3, 1) := dd_get dm_X1_write_0 21 rfl
theorem dX1_write_38 : decode cX1_write 38 = .ok (.invokevirtual 49, 3) := dd_get dm_X1_write_0 22 rfl
theorem dX1_write_41 : decode cX1_write 41 = .ok (.iinc 3 1, 3) := dd_get dm_X1_write_0 23 rfl
theorem dX1_write_44 : decode cX1_write 44 = .ok (.goto (-37), 3) := dd_get dm_X1_write_0 24 rfl
theorem dX1_write_47 : decode cX1_write 47 = .ok (.aload_n 0, 1) := dd_get dm_X1_write_0 25 rfl
theorem dX1_write_48 : decode cX1_write 48 = .ok (.getfield 15, 3) := dd_get dm_X1_write_0 26 rfl
theorem dX1_write_51 : decode cX1_write 51 = .ok (.getfield 29, 3) := dd_get dm_X1_write_0 27 rfl
theorem dX1_write_54 : decode cX1_write 54 = .ok (.ireturn, 1) := dd_get dm_X1_write_0 28 rfl
theorem dm_X1_follow_0 : (([(0, .aload_n 1, 1), (1, .getfield 35, 3), (4, .iload_n 2, 1), (5, .iaload, 1), (6, .iconst 1, 1), (7, .if_icmp .ne 25, 3), (10, .aload_n 0, 1), (11, .getfield 15, 3), (14, .aload_n 1, 1), (15, .getfield 39, 3), (18, .iload_n 2, 1), (19, .iaload, 1), (20, .aload_n 1, 1), (21, .getfield 42, 3), (24, .iload_n 2, 1), (25, .iaload, 1), (26, .invokevirtual 57, 3), (29, .goto 10, 3), (32, .aload_n 0, 1), (33, .getfield 15, 3), (36, .invokevirtual 61, 3), (39, .return_, 1)] : List (Nat × Instr × Nat)).all fun q => decide (decode cX1_follow q.1 = .ok (q.2.1, q.2.2))) = true := by decide +kernel
theorem dX1_follow_0 : decode cX1_follow 0 = .ok (.aload_n 1, 1) := dd_get dm_X1_follow_0 0 rfl
theorem dX1_follow_1 : decode cX1_follow 1 = .ok (.getfield 35, 3) := dd_get dm_X1_follow_0 1 rfl
theorem dX1_follow_4 : decode cX1_follow 4 = .ok (.iload_n 2, 1) := dd_get dm_X1_follow_0 2 rfl
theorem dX1_follow_5 : decode cX1_follow 5 = .ok (.iaload, 1) := dd_get dm_X1_follow_0 3 rfl
theorem dX1_follow_6 : decode cX1_follow 6 = .ok (.iconst 1, 1) := dd_get dm_X1_follow_0 4 rfl
theorem dX1_follow_7 : decode cX1_follow 7 = .ok (.if_icmp .ne 25, 3) := dd_get dm_X1_follow_0 5 rfl
theorem dX1_follow_10 : decode cX1_follow 10 = .ok (.aload_n 0, 1) := dd_get dm_X1_follow_0 6 rfl
theorem dX1_follow_11 : decode cX1_follow 11 = .ok (.getfield 15, 3) := dd_get dm_X1_follow_0 7 rfl
theorem dX1_follow_14 : decode cX1_follow 14 = .ok (.aload_n 1, 1) := dd_get dm_X1_follow_0 8 rfl
theorem dX1_follow_15 : decode cX1_follow 15 = .ok (.getfield 39, 3) := dd_get dm_X1_follow_0 9 rfl
theorem dX1_follow_18 : decode cX1_follow 18 = .ok (.iload_n 2, 1) := dd_get dm_X1_follow_0 10 rfl
theorem dX1_follow_19 : decode cX1_follow 19 = .ok (.iaload, 1) := dd_get dm_X1_follow_0 11 rfl
theorem dX1_follow_20 : decode cX1_follow 20 = .ok (.aload_n 1, 1) := dd_get dm_X1_follow_0 12 rfl
theorem dX1_follow_21 : decode cX1_follow 21 = .ok (.getfield 42, 3) := dd_get dm_X1_follow_0 13 rfl
theorem dX1_follow_24 : decode cX1_follow 24 = .ok (.iload_n 2, 1) := dd_get dm_X1_follow_0 14 rfl
theorem dX1_follow_25 : decode cX1_follow 25 = .ok (.iaload, 1) := dd_get dm_X1_follow_0 15 rfl
theorem dX1_follow_26 : decode cX1_follow 26 = .ok (.invokevirtual 57, 3) := dd_get dm_X1_follow_0 16 rfl
theorem dX1_follow_29 : decode cX1_follow 29 = .ok (.goto 10, 3) := dd_get dm_X1_follow_0 17 rfl
theorem dX1_follow_32 : decode cX1_follow 32 = .ok (.aload_n 0, 1) := dd_get dm_X1_follow_0 18 rfl
theorem dX1_follow_33 : decode cX1_follow 33 = .ok (.getfield 15, 3) := dd_get dm_X1_follow_0 19 rfl
theorem dX1_follow_36 : decode cX1_follow 36 = .ok (.invokevirtual 61, 3) := dd_get dm_X1_follow_0 20 rfl
theorem dX1_follow_39 : decode cX1_follow 39 = .ok (.return_, 1) := dd_get dm_X1_follow_0 21 rfl
theorem dm_X1_canStand_0 : (([(0, .iload_n 1, 1), (1, .lookupswitch 127 #[(1, 35), (2, 80), (6, 87)], 35), (36, .iload_n 2, 1), (37, .iload_n 3, 1), (38, .if_icmp .ge 41, 3), (41, .aload_n 0, 1), (42, .getfield 9, 3), (45, .iload_n 2, 1), (46, .invokevirtual 64, 3), (49, .ifCond .eq 30, 3), (52, .aload_n 0, 1), (53, .getfield 9, 3), (56, .iload_n 3, 1), (57, .invokevirtual 64, 3), (60, .ifCond .eq 19, 3), (63, .aload_n 0, 1), (64, .getfield 15, 3), (67, .iload_n 2, 1), (68, .iload_n 3, 1), (69, .invokevirtual 70, 3), (72, .ifCond .eq 7, 3), (75, .iconst 1, 1), (76, .goto 4, 3), (79, .iconst 0, 1), (80, .ireturn, 1), (81, .aload_n 0, 1), (82, .iload 4, 2), (84, .invokevirtual 74, 3), (87, .ireturn, 1), (88, .aload_n 0, 1), (89, .getfield 9, 3), (92, .iload_n 2, 1), (93, .invokevirtual 64, 3), (96, .ifCond .eq 30, 3), (99, .aload_n 0, 1), (100, .getfield 9, 3), (103, .iload_n 3, 1), (104, .invokevirtual 64, 3), (107, .ifCond .eq 19, 3), (110, .aload_n 0, 1), (111, .iload_n 2, 1), (112, .invokevirtual 77, 3), (115, .iload_n 3, 1), (116, .invokestatic 81, 3), (119, .ifCond .eq 7, 3), (122, .iconst 1, 1), (123, .goto 4, 3), (126, .iconst 0, 1), (127, .ireturn, 1), (128, .aload_n 0, 1), (129, .getfield 9, 3), (132, .iload_n 2, 1), (133, .invokevirtual 64, 3), (136, .ifCond .eq 16, 3), (139, .aload_n 0, 1), (140, .iload_n 1, 1), (141, .iload_n 2, 1), (142, .invokevirtual 84, 3), (145, .ifCond .eq 7, 3), (148, .iconst 1, 1)] : List (Nat × Instr × Nat)).all fun q => decide (decode cX1_canStand q.1 = .ok (q.2.1, q.2.2))) = true := by decide +kernel
theorem dX1_canStand_0 : decode cX1_canStand 0 = .ok (.iload_n 1, 1) := dd_get dm_X1_canStand_0 0 rfl
theorem dX1_canStand_1 : decode cX1_canStand 1 = .ok (.lookupswitch 127 #[(1, 35), (2, 80), (6, 87)], 35) := dd_get dm_X1_canStand_0 1 rfl
theorem dX1_canStand_36 : decode cX1_canStand 36 = .ok (.iload_n 2, 1) := dd_get dm_X1_canStand_0 2 rfl
theorem dX1_canStand_37 : decode cX1_canStand 37 = .ok (.iload_n 3, 1) := dd_get dm_X1_canStand_0 3 rfl
theorem dX1_canStand_38 : decode cX1_canStand 38 = .ok (.if_icmp .ge 41, 3) := dd_get dm_X1_canStand_0 4 rfl
theorem dX1_canStand_41 : decode cX1_canStand 41 = .ok (.aload_n 0, 1) := dd_get dm_X1_canStand_0 5 rfl
theorem dX1_canStand_42 : decode cX1_canStand 42 = .ok (.getfield 9, 3) := dd_get dm_X1_canStand_0 6 rfl
theorem dX1_canStand_45 : decode cX1_canStand 45 = .ok (.iload_n 2, 1) := dd_get dm_X1_canStand_0 7 rfl
theorem dX1_canStand_46 : decode cX1_canStand 46 = .ok (.invokevirtual 64, 3) := dd_get dm_X1_canStand_0 8 rfl
theorem dX1_canStand_49 : decode cX1_canStand 49 = .ok (.ifCond .eq 30, 3) := dd_get dm_X1_canStand_0 9 rfl
theorem dX1_canStand_52 : decode cX1_canStand 52 = .ok (.aload_n 0, 1) := dd_get dm_X1_canStand_0 10 rfl
theorem dX1_canStand_53 : decode cX1_canStand 53 = .ok (.getfield 9, 3) := dd_get dm_X1_canStand_0 11 rfl
theorem dX1_canStand_56 : decode cX1_canStand 56 = .ok (.iload_n 3, 1) := dd_get dm_X1_canStand_0 12 rfl
theorem dX1_canStand_57 : decode cX1_canStand 57 = .ok (.invokevirtual 64, 3) := dd_get dm_X1_canStand_0 13 rfl
theorem dX1_canStand_60 : decode cX1_canStand 60 = .ok (.ifCond .eq 19, 3) := dd_get dm_X1_canStand_0 14 rfl
theorem dX1_canStand_63 : decode cX1_canStand 63 = .ok (.aload_n 0, 1) := dd_get dm_X1_canStand_0 15 rfl
theorem dX1_canStand_64 : decode cX1_canStand 64 = .ok (.getfield 15, 3) := dd_get dm_X1_canStand_0 16 rfl
theorem dX1_canStand_67 : decode cX1_canStand 67 = .ok (.iload_n 2, 1) := dd_get dm_X1_canStand_0 17 rfl
theorem dX1_canStand_68 : decode cX1_canStand 68 = .ok (.iload_n 3, 1) := dd_get dm_X1_canStand_0 18 rfl
theorem dX1_canStand_69 : decode cX1_canStand 69 = .ok (.invokevirtual 70, 3) := dd_get dm_X1_canStand_0 19 rfl
theorem dX1_canStand_72 : decode cX1_canStand 72 = .ok (.ifCond .eq 7, 3) := dd_get dm_X1_canStand_0 20 rfl
theorem dX1_canStand_75 : decode cX1_canStand 75 = .ok (.iconst 1, 1) := dd_get dm_X1_canStand_0 21 rfl
theorem dX1_canStand_76 : decode cX1_canStand 76 = .ok (.goto 4, 3) := dd_get dm_X1_canStand_0 22 rfl
theorem dX1_canStand_79 : decode cX1_canStand 79 = .ok (.iconst 0, 1) := dd_get dm_X1_canStand_0 23 rfl
theorem dX1_canStand_80 : decode cX1_canStand 80 = .ok (.ireturn, 1) := dd_get dm_X1_canStand_0 24 rfl
theorem dX1_canStand_81 : decode cX1_canStand 81 = .ok (.aload_n 0, 1) := dd_get dm_X1_canStand_0 25 rfl
theorem dX1_canStand_82 : decode cX1_canStand 82 = .ok (.iload 4, 2) := dd_get dm_X1_canStand_0 26 rfl
theorem dX1_canStand_84 : decode cX1_canStand 84 = .ok (.invokevirtual 74, 3) := dd_get dm_X1_canStand_0 27 rfl
theorem dX1_canStand_87 : decode cX1_canStand 87 = .ok (.ireturn, 1) := dd_get dm_X1_canStand_0 28 rfl
theorem dX1_canStand_88 : decode cX1_canStand 88 = .ok (.aload_n 0, 1) := dd_get dm_X1_canStand_0 29 rfl
theorem dX1_canStand_89 : decode cX1_canStand 89 = .ok (.getfield 9, 3) := dd_get dm_X1_canStand_0 30 rfl
theorem dX1_canStand_92 : decode cX1_canStand 92 = .ok (.iload_n 2, 1) := dd_get dm_X1_canStand_0 31 rfl
theorem dX1_canStand_93 : decode cX1_canStand 93 = .ok (.invokevirtual 64, 3) := dd_get dm_X1_canStand_0 32 rfl
theorem dX1_canStand_96 : decode cX1_canStand 96 = .ok (.ifCond .eq 30, 3) := dd_get dm_X1_canStand_0 33 rfl
theorem dX1_canStand_99 : decode cX1_canStand 99 = .ok (.aload_n 0, 1) := dd_get dm_X1_canStand_0 34 rfl
theorem dX1_canStand_100 : decode cX1_canStand 100 = .ok (.getfield 9, 3) := dd_get dm_X1_canStand_0 35 rfl
theorem dX1_canStand_103 : decode cX1_canStand 103 = .ok (.iload_n 3, 1) := dd_get dm_X1_canStand_0 36 rfl
theorem dX1_canStand_104 : decode cX1_canStand 104 = .ok (.invokevirtual 64, 3) := dd_get dm_X1_canStand_0 37 rfl
theorem dX1_canStand_107 : decode cX1_canStand 107 = .ok (.ifCond .eq 19, 3) := dd_get dm_X1_canStand_0 38 rfl
theorem dX1_canStand_110 : decode cX1_canStand 110 = .ok (.aload_n 0, 1) := dd_get dm_X1_canStand_0 39 rfl
theorem dX1_canStand_111 : decode cX1_canStand 111 = .ok (.iload_n 2, 1) := dd_get dm_X1_canStand_0 40 rfl
theorem dX1_canStand_112 : decode cX1_canStand 112 = .ok (.invokevirtual 77, 3) := dd_get dm_X1_canStand_0 41 rfl
theorem dX1_canStand_115 : decode cX1_canStand 115 = .ok (.iload_n 3, 1) := dd_get dm_X1_canStand_0 42 rfl
theorem dX1_canStand_116 : decode cX1_canStand 116 = .ok (.invokestatic 81, 3) := dd_get dm_X1_canStand_0 43 rfl
theorem dX1_canStand_119 : decode cX1_canStand 119 = .ok (.ifCond .eq 7, 3) := dd_get dm_X1_canStand_0 44 rfl
theorem dX1_canStand_122 : decode cX1_canStand 122 = .ok (.iconst 1, 1) := dd_get dm_X1_canStand_0 45 rfl
theorem dX1_canStand_123 : decode cX1_canStand 123 = .ok (.goto 4, 3) := dd_get dm_X1_canStand_0 46 rfl
theorem dX1_canStand_126 : decode cX1_canStand 126 = .ok (.iconst 0, 1) := dd_get dm_X1_canStand_0 47 rfl
theorem dX1_canStand_127 : decode cX1_canStand 127 = .ok (.ireturn, 1) := dd_get dm_X1_canStand_0 48 rfl
theorem dX1_canStand_128 : decode cX1_canStand 128 = .ok (.aload_n 0, 1) := dd_get dm_X1_canStand_0 49 rfl
theorem dX1_canStand_129 : decode cX1_canStand 129 = .ok (.getfield 9, 3) := dd_get dm_X1_canStand_0 50 rfl
theorem dX1_canStand_132 : decode cX1_canStand 132 = .ok (.iload_n 2, 1) := dd_get dm_X1_canStand_0 51 rfl
theorem dX1_canStand_133 : decode cX1_canStand 133 = .ok (.invokevirtual 64, 3) := dd_get dm_X1_canStand_0 52 rfl
theorem dX1_canStand_136 : decode cX1_canStand 136 = .ok (.ifCond .eq 16, 3) := dd_get dm_X1_canStand_0 53 rfl
theorem dX1_canStand_139 : decode cX1_canStand 139 = .ok (.aload_n 0, 1) := dd_get dm_X1_canStand_0 54 rfl
theorem dX1_canStand_140 : decode cX1_canStand 140 = .ok (.iload_n 1, 1) := dd_get dm_X1_canStand_0 55 rfl
theorem dX1_canStand_141 : decode cX1_canStand 141 = .ok (.iload_n 2, 1) := dd_get dm_X1_canStand_0 56 rfl
theorem dX1_canStand_142 : decode cX1_canStand 142 = .ok (.invokevirtual 84, 3) := dd_get dm_X1_canStand_0 57 rfl
theorem dX1_canStand_145 : decode cX1_canStand 145 = .ok (.ifCond .eq 7, 3) := dd_get dm_X1_canStand_0 58 rfl
theorem dX1_canStand_148 : decode cX1_canStand 148 = .ok (.iconst 1, 1) := dd_get dm_X1_canStand_0 59 rfl
theorem dm_X1_canStand_1 : (([(149, .goto 4, 3), (152, .iconst 0, 1), (153, .ireturn, 1)] : List (Nat × Instr × Nat)).all fun q => decide (decode cX1_canStand q.1 = .ok (q.2.1, q.2.2))) = true := by decide +kernel
theorem dX1_canStand_149 : decode cX1_canStand 149 = .ok (.goto 4, 3) := dd_get dm_X1_canStand_1 0 rfl
theorem dX1_canStand_152 : decode cX1_canStand 152 = .ok (.iconst 0, 1) := dd_get dm_X1_canStand_1 1 rfl
theorem dX1_canStand_153 : decode cX1_canStand 153 = .ok (.ireturn, 1) := dd_get dm_X1_canStand_1 2 rfl
theorem dm_X1_pricesStand_0 : (([(0, .aload_n 0, 1), (1, .getfield 19, 3), (4, .invokevirtual 87, 3), (7, .aload_n 0, 1), (8, .getfield 19, 3), (11, .invokevirtual 92, 3), (14, .iload_n 1, 1), (15, .i2l, 1), (16, .lcmp, 1), (17, .ifCond .lt 7, 3), (20, .iconst 1, 1), (21, .goto 4, 3), (24, .iconst 0, 1), (25, .ireturn, 1)] : List (Nat × Instr × Nat)).all fun q => decide (decode cX1_pricesStand q.1 = .ok (q.2.1, q.2.2))) = true := by decide +kernel
theorem dX1_pricesStand_0 : decode cX1_pricesStand 0 = .ok (.aload_n 0, 1) := dd_get dm_X1_pricesStand_0 0 rfl
theorem dX1_pricesStand_1 : decode cX1_pricesStand 1 = .ok (.getfield 19, 3) := dd_get dm_X1_pricesStand_0 1 rfl
theorem dX1_pricesStand_4 : decode cX1_pricesStand 4 = .ok (.invokevirtual 87, 3) := dd_get dm_X1_pricesStand_0 2 rfl
theorem dX1_pricesStand_7 : decode cX1_pricesStand 7 = .ok (.aload_n 0, 1) := dd_get dm_X1_pricesStand_0 3 rfl
theorem dX1_pricesStand_8 : decode cX1_pricesStand 8 = .ok (.getfield 19, 3) := dd_get dm_X1_pricesStand_0 4 rfl
theorem dX1_pricesStand_11 : decode cX1_pricesStand 11 = .ok (.invokevirtual 92, 3) := dd_get dm_X1_pricesStand_0 5 rfl
theorem dX1_pricesStand_14 : decode cX1_pricesStand 14 = .ok (.iload_n 1, 1) := dd_get dm_X1_pricesStand_0 6 rfl
theorem dX1_pricesStand_15 : decode cX1_pricesStand 15 = .ok (.i2l, 1) := dd_get dm_X1_pricesStand_0 7 rfl
theorem dX1_pricesStand_16 : decode cX1_pricesStand 16 = .ok (.lcmp, 1) := dd_get dm_X1_pricesStand_0 8 rfl
theorem dX1_pricesStand_17 : decode cX1_pricesStand 17 = .ok (.ifCond .lt 7, 3) := dd_get dm_X1_pricesStand_0 9 rfl
theorem dX1_pricesStand_20 : decode cX1_pricesStand 20 = .ok (.iconst 1, 1) := dd_get dm_X1_pricesStand_0 10 rfl
theorem dX1_pricesStand_21 : decode cX1_pricesStand 21 = .ok (.goto 4, 3) := dd_get dm_X1_pricesStand_0 11 rfl
theorem dX1_pricesStand_24 : decode cX1_pricesStand 24 = .ok (.iconst 0, 1) := dd_get dm_X1_pricesStand_0 12 rfl
theorem dX1_pricesStand_25 : decode cX1_pricesStand 25 = .ok (.ireturn, 1) := dd_get dm_X1_pricesStand_0 13 rfl
theorem dm_X1_partedTwins_0 : (([(0, .aload_n 0, 1), (1, .getfield 9, 3), (4, .getfield 96, 3), (7, .iload_n 1, 1), (8, .iaload, 1), (9, .aload_n 0, 1), (10, .getfield 15, 3), (13, .getfield 99, 3), (16, .iload_n 1, 1), (17, .iaload, 1), (18, .iand, 1), (19, .ireturn, 1)] : List (Nat × Instr × Nat)).all fun q => decide (decode cX1_partedTwins q.1 = .ok (q.2.1, q.2.2))) = true := by decide +kernel
theorem dX1_partedTwins_0 : decode cX1_partedTwins 0 = .ok (.aload_n 0, 1) := dd_get dm_X1_partedTwins_0 0 rfl
theorem dX1_partedTwins_1 : decode cX1_partedTwins 1 = .ok (.getfield 9, 3) := dd_get dm_X1_partedTwins_0 1 rfl
theorem dX1_partedTwins_4 : decode cX1_partedTwins 4 = .ok (.getfield 96, 3) := dd_get dm_X1_partedTwins_0 2 rfl
theorem dX1_partedTwins_7 : decode cX1_partedTwins 7 = .ok (.iload_n 1, 1) := dd_get dm_X1_partedTwins_0 3 rfl
theorem dX1_partedTwins_8 : decode cX1_partedTwins 8 = .ok (.iaload, 1) := dd_get dm_X1_partedTwins_0 4 rfl
theorem dX1_partedTwins_9 : decode cX1_partedTwins 9 = .ok (.aload_n 0, 1) := dd_get dm_X1_partedTwins_0 5 rfl
theorem dX1_partedTwins_10 : decode cX1_partedTwins 10 = .ok (.getfield 15, 3) := dd_get dm_X1_partedTwins_0 6 rfl
theorem dX1_partedTwins_13 : decode cX1_partedTwins 13 = .ok (.getfield 99, 3) := dd_get dm_X1_partedTwins_0 7 rfl
theorem dX1_partedTwins_16 : decode cX1_partedTwins 16 = .ok (.iload_n 1, 1) := dd_get dm_X1_partedTwins_0 8 rfl
theorem dX1_partedTwins_17 : decode cX1_partedTwins 17 = .ok (.iaload, 1) := dd_get dm_X1_partedTwins_0 9 rfl
theorem dX1_partedTwins_18 : decode cX1_partedTwins 18 = .ok (.iand, 1) := dd_get dm_X1_partedTwins_0 10 rfl
theorem dX1_partedTwins_19 : decode cX1_partedTwins 19 = .ok (.ireturn, 1) := dd_get dm_X1_partedTwins_0 11 rfl
theorem dm_X1_standsAlone_0 : (([(0, .iload_n 1, 1), (1, .tableswitch 94 3 5 #[27, 59, 81], 27), (28, .aload_n 0, 1), (29, .getfield 9, 3), (32, .invokevirtual 102, 3), (35, .iconst 1, 1), (36, .isub, 1), (37, .aload_n 0, 1), (38, .getfield 15, 3), (41, .getfield 99, 3), (44, .iload_n 2, 1), (45, .iaload, 1), (46, .invokestatic 106, 3), (49, .isub, 1), (50, .iconst 2, 1), (51, .if_icmp .ge 7, 3), (54, .iconst 1, 1), (55, .goto 4, 3), (58, .iconst 0, 1), (59, .ireturn, 1), (60, .aload_n 0, 1), (61, .getfield 15, 3), (64, .getfield 111, 3), (67, .iload_n 2, 1), (68, .iaload, 1), (69, .invokestatic 106, 3), (72, .iconst 2, 1), (73, .if_icmp .le 7, 3), (76, .iconst 1, 1), (77, .goto 4, 3), (80, .iconst 0, 1), (81, .ireturn, 1), (82, .aload_n 0, 1), (83, .aload_n 0, 1), (84, .getfield 15, 3), (87, .iload_n 2, 1), (88, .invokevirtual 114, 3), (91, .invokevirtual 117, 3), (94, .ireturn, 1), (95, .iconst 0, 1), (96, .ireturn, 1)] : List (Nat × Instr × Nat)).all fun q => decide (decode cX1_standsAlone q.1 = .ok (q.2.1, q.2.2))) = true := by decide +kernel
theorem dX1_standsAlone_0 : decode cX1_standsAlone 0 = .ok (.iload_n 1, 1) := dd_get dm_X1_standsAlone_0 0 rfl
theorem dX1_standsAlone_1 : decode cX1_standsAlone 1 = .ok (.tableswitch 94 3 5 #[27, 59, 81], 27) := dd_get dm_X1_standsAlone_0 1 rfl
theorem dX1_standsAlone_28 : decode cX1_standsAlone 28 = .ok (.aload_n 0, 1) := dd_get dm_X1_standsAlone_0 2 rfl
theorem dX1_standsAlone_29 : decode cX1_standsAlone 29 = .ok (.getfield 9, 3) := dd_get dm_X1_standsAlone_0 3 rfl
theorem dX1_standsAlone_32 : decode cX1_standsAlone 32 = .ok (.invokevirtual 102, 3) := dd_get dm_X1_standsAlone_0 4 rfl
theorem dX1_standsAlone_35 : decode cX1_standsAlone 35 = .ok (.iconst 1, 1) := dd_get dm_X1_standsAlone_0 5 rfl
theorem dX1_standsAlone_36 : decode cX1_standsAlone 36 = .ok (.isub, 1) := dd_get dm_X1_standsAlone_0 6 rfl
theorem dX1_standsAlone_37 : decode cX1_standsAlone 37 = .ok (.aload_n 0, 1) := dd_get dm_X1_standsAlone_0 7 rfl
theorem dX1_standsAlone_38 : decode cX1_standsAlone 38 = .ok (.getfield 15, 3) := dd_get dm_X1_standsAlone_0 8 rfl
theorem dX1_standsAlone_41 : decode cX1_standsAlone 41 = .ok (.getfield 99, 3) := dd_get dm_X1_standsAlone_0 9 rfl
theorem dX1_standsAlone_44 : decode cX1_standsAlone 44 = .ok (.iload_n 2, 1) := dd_get dm_X1_standsAlone_0 10 rfl
theorem dX1_standsAlone_45 : decode cX1_standsAlone 45 = .ok (.iaload, 1) := dd_get dm_X1_standsAlone_0 11 rfl
theorem dX1_standsAlone_46 : decode cX1_standsAlone 46 = .ok (.invokestatic 106, 3) := dd_get dm_X1_standsAlone_0 12 rfl
theorem dX1_standsAlone_49 : decode cX1_standsAlone 49 = .ok (.isub, 1) := dd_get dm_X1_standsAlone_0 13 rfl
theorem dX1_standsAlone_50 : decode cX1_standsAlone 50 = .ok (.iconst 2, 1) := dd_get dm_X1_standsAlone_0 14 rfl
theorem dX1_standsAlone_51 : decode cX1_standsAlone 51 = .ok (.if_icmp .ge 7, 3) := dd_get dm_X1_standsAlone_0 15 rfl
theorem dX1_standsAlone_54 : decode cX1_standsAlone 54 = .ok (.iconst 1, 1) := dd_get dm_X1_standsAlone_0 16 rfl
theorem dX1_standsAlone_55 : decode cX1_standsAlone 55 = .ok (.goto 4, 3) := dd_get dm_X1_standsAlone_0 17 rfl
theorem dX1_standsAlone_58 : decode cX1_standsAlone 58 = .ok (.iconst 0, 1) := dd_get dm_X1_standsAlone_0 18 rfl
theorem dX1_standsAlone_59 : decode cX1_standsAlone 59 = .ok (.ireturn, 1) := dd_get dm_X1_standsAlone_0 19 rfl
theorem dX1_standsAlone_60 : decode cX1_standsAlone 60 = .ok (.aload_n 0, 1) := dd_get dm_X1_standsAlone_0 20 rfl
theorem dX1_standsAlone_61 : decode cX1_standsAlone 61 = .ok (.getfield 15, 3) := dd_get dm_X1_standsAlone_0 21 rfl
theorem dX1_standsAlone_64 : decode cX1_standsAlone 64 = .ok (.getfield 111, 3) := dd_get dm_X1_standsAlone_0 22 rfl
theorem dX1_standsAlone_67 : decode cX1_standsAlone 67 = .ok (.iload_n 2, 1) := dd_get dm_X1_standsAlone_0 23 rfl
theorem dX1_standsAlone_68 : decode cX1_standsAlone 68 = .ok (.iaload, 1) := dd_get dm_X1_standsAlone_0 24 rfl
theorem dX1_standsAlone_69 : decode cX1_standsAlone 69 = .ok (.invokestatic 106, 3) := dd_get dm_X1_standsAlone_0 25 rfl
theorem dX1_standsAlone_72 : decode cX1_standsAlone 72 = .ok (.iconst 2, 1) := dd_get dm_X1_standsAlone_0 26 rfl
theorem dX1_standsAlone_73 : decode cX1_standsAlone 73 = .ok (.if_icmp .le 7, 3) := dd_get dm_X1_standsAlone_0 27 rfl
theorem dX1_standsAlone_76 : decode cX1_standsAlone 76 = .ok (.iconst 1, 1) := dd_get dm_X1_standsAlone_0 28 rfl
theorem dX1_standsAlone_77 : decode cX1_standsAlone 77 = .ok (.goto 4, 3) := dd_get dm_X1_standsAlone_0 29 rfl
theorem dX1_standsAlone_80 : decode cX1_standsAlone 80 = .ok (.iconst 0, 1) := dd_get dm_X1_standsAlone_0 30 rfl
theorem dX1_standsAlone_81 : decode cX1_standsAlone 81 = .ok (.ireturn, 1) := dd_get dm_X1_standsAlone_0 31 rfl
theorem dX1_standsAlone_82 : decode cX1_standsAlone 82 = .ok (.aload_n 0, 1) := dd_get dm_X1_standsAlone_0 32 rfl
theorem dX1_standsAlone_83 : decode cX1_standsAlone 83 = .ok (.aload_n 0, 1) := dd_get dm_X1_standsAlone_0 33 rfl
theorem dX1_standsAlone_84 : decode cX1_standsAlone 84 = .ok (.getfield 15, 3) := dd_get dm_X1_standsAlone_0 34 rfl
theorem dX1_standsAlone_87 : decode cX1_standsAlone 87 = .ok (.iload_n 2, 1) := dd_get dm_X1_standsAlone_0 35 rfl
theorem dX1_standsAlone_88 : decode cX1_standsAlone 88 = .ok (.invokevirtual 114, 3) := dd_get dm_X1_standsAlone_0 36 rfl
theorem dX1_standsAlone_91 : decode cX1_standsAlone 91 = .ok (.invokevirtual 117, 3) := dd_get dm_X1_standsAlone_0 37 rfl
theorem dX1_standsAlone_94 : decode cX1_standsAlone 94 = .ok (.ireturn, 1) := dd_get dm_X1_standsAlone_0 38 rfl
theorem dX1_standsAlone_95 : decode cX1_standsAlone 95 = .ok (.iconst 0, 1) := dd_get dm_X1_standsAlone_0 39 rfl
theorem dX1_standsAlone_96 : decode cX1_standsAlone 96 = .ok (.ireturn, 1) := dd_get dm_X1_standsAlone_0 40 rfl
theorem dm_X1_isRing_0 : (([(0, .iconst 0, 1), (1, .istore_n 2, 1), (2, .iload_n 2, 1), (3, .bipush 12, 2), (5, .if_icmp .ge 35, 3), (8, .iload_n 1, 1), (9, .iload_n 2, 1), (10, .invokestatic 81, 3), (13, .ifCond .eq 21, 3), (16, .aload_n 0, 1), (17, .getfield 15, 3), (20, .getfield 111, 3), (23, .iload_n 2, 1), (24, .iaload, 1), (25, .invokestatic 106, 3), (28, .iconst 2, 1), (29, .if_icmp .eq 5, 3), (32, .iconst 0, 1), (33, .ireturn, 1), (34, .iinc 2 1, 3), (37, .goto (-35), 3), (40, .iload_n 1, 1), (41, .aload_n 0, 1), (42, .getfield 9, 3), (45, .getfield 120, 3), (48, .if_icmp .eq 7, 3), (51, .iconst 1, 1), (52, .goto 4, 3), (55, .iconst 0, 1), (56, .ireturn, 1)] : List (Nat × Instr × Nat)).all fun q => decide (decode cX1_isRing q.1 = .ok (q.2.1, q.2.2))) = true := by decide +kernel
theorem dX1_isRing_0 : decode cX1_isRing 0 = .ok (.iconst 0, 1) := dd_get dm_X1_isRing_0 0 rfl
theorem dX1_isRing_1 : decode cX1_isRing 1 = .ok (.istore_n 2, 1) := dd_get dm_X1_isRing_0 1 rfl
theorem dX1_isRing_2 : decode cX1_isRing 2 = .ok (.iload_n 2, 1) := dd_get dm_X1_isRing_0 2 rfl
theorem dX1_isRing_3 : decode cX1_isRing 3 = .ok (.bipush 12, 2) := dd_get dm_X1_isRing_0 3 rfl
theorem dX1_isRing_5 : decode cX1_isRing 5 = .ok (.if_icmp .ge 35, 3) := dd_get dm_X1_isRing_0 4 rfl
theorem dX1_isRing_8 : decode cX1_isRing 8 = .ok (.iload_n 1, 1) := dd_get dm_X1_isRing_0 5 rfl
theorem dX1_isRing_9 : decode cX1_isRing 9 = .ok (.iload_n 2, 1) := dd_get dm_X1_isRing_0 6 rfl
theorem dX1_isRing_10 : decode cX1_isRing 10 = .ok (.invokestatic 81, 3) := dd_get dm_X1_isRing_0 7 rfl
theorem dX1_isRing_13 : decode cX1_isRing 13 = .ok (.ifCond .eq 21, 3) := dd_get dm_X1_isRing_0 8 rfl
theorem dX1_isRing_16 : decode cX1_isRing 16 = .ok (.aload_n 0, 1) := dd_get dm_X1_isRing_0 9 rfl
theorem dX1_isRing_17 : decode cX1_isRing 17 = .ok (.getfield 15, 3) := dd_get dm_X1_isRing_0 10 rfl
theorem dX1_isRing_20 : decode cX1_isRing 20 = .ok (.getfield 111, 3) := dd_get dm_X1_isRing_0 11 rfl
theorem dX1_isRing_23 : decode cX1_isRing 23 = .ok (.iload_n 2, 1) := dd_get dm_X1_isRing_0 12 rfl
theorem dX1_isRing_24 : decode cX1_isRing 24 = .ok (.iaload, 1) := dd_get dm_X1_isRing_0 13 rfl
theorem dX1_isRing_25 : decode cX1_isRing 25 = .ok (.invokestatic 106, 3) := dd_get dm_X1_isRing_0 14 rfl
theorem dX1_isRing_28 : decode cX1_isRing 28 = .ok (.iconst 2, 1) := dd_get dm_X1_isRing_0 15 rfl
theorem dX1_isRing_29 : decode cX1_isRing 29 = .ok (.if_icmp .eq 5, 3) := dd_get dm_X1_isRing_0 16 rfl
theorem dX1_isRing_32 : decode cX1_isRing 32 = .ok (.iconst 0, 1) := dd_get dm_X1_isRing_0 17 rfl
theorem dX1_isRing_33 : decode cX1_isRing 33 = .ok (.ireturn, 1) := dd_get dm_X1_isRing_0 18 rfl
theorem dX1_isRing_34 : decode cX1_isRing 34 = .ok (.iinc 2 1, 3) := dd_get dm_X1_isRing_0 19 rfl
theorem dX1_isRing_37 : decode cX1_isRing 37 = .ok (.goto (-35), 3) := dd_get dm_X1_isRing_0 20 rfl
theorem dX1_isRing_40 : decode cX1_isRing 40 = .ok (.iload_n 1, 1) := dd_get dm_X1_isRing_0 21 rfl
theorem dX1_isRing_41 : decode cX1_isRing 41 = .ok (.aload_n 0, 1) := dd_get dm_X1_isRing_0 22 rfl
theorem dX1_isRing_42 : decode cX1_isRing 42 = .ok (.getfield 9, 3) := dd_get dm_X1_isRing_0 23 rfl
theorem dX1_isRing_45 : decode cX1_isRing 45 = .ok (.getfield 120, 3) := dd_get dm_X1_isRing_0 24 rfl
theorem dX1_isRing_48 : decode cX1_isRing 48 = .ok (.if_icmp .eq 7, 3) := dd_get dm_X1_isRing_0 25 rfl
theorem dX1_isRing_51 : decode cX1_isRing 51 = .ok (.iconst 1, 1) := dd_get dm_X1_isRing_0 26 rfl
theorem dX1_isRing_52 : decode cX1_isRing 52 = .ok (.goto 4, 3) := dd_get dm_X1_isRing_0 27 rfl
theorem dX1_isRing_55 : decode cX1_isRing 55 = .ok (.iconst 0, 1) := dd_get dm_X1_isRing_0 28 rfl
theorem dX1_isRing_56 : decode cX1_isRing 56 = .ok (.ireturn, 1) := dd_get dm_X1_isRing_0 29 rfl
theorem dm_X1_writeNext_0 : (([(0, .aload_n 0, 1), (1, .aload_n 1, 1), (2, .invokevirtual 123, 3), (5, .ifCond .ne 30, 3), (8, .aload_n 0, 1), (9, .aload_n 1, 1), (10, .iconst 3, 1), (11, .invokevirtual 127, 3), (14, .ifCond .ne 21, 3), (17, .aload_n 0, 1), (18, .aload_n 1, 1), (19, .iconst 4, 1), (20, .invokevirtual 127, 3), (23, .ifCond .ne 12, 3), (26, .aload_n 0, 1), (27, .aload_n 1, 1), (28, .iconst 5, 1), (29, .invokevirtual 127, 3), (32, .ifCond .eq 5, 3), (35, .iconst 1, 1), (36, .ireturn, 1), (37, .aload_n 0, 1), (38, .iload_n 2, 1), (39, .invokevirtual 74, 3), (42, .ifCond .eq 12, 3), (45, .aload_n 1, 1), (46, .iconst 2, 1), (47, .iconst 0, 1), (48, .iconst 0, 1), (49, .invokevirtual 130, 3), (52, .iconst 1, 1), (53, .ireturn, 1), (54, .aload_n 0, 1), (55, .getfield 19, 3), (58, .invokevirtual 134, 3), (61, .istore_n 3, 1), (62, .iload_n 3, 1), (63, .iconst (-1), 1), (64, .if_icmp .ne 5, 3), (67, .iconst 0, 1), (68, .ireturn, 1), (69, .aload_n 1, 1), (70, .iconst 1, 1), (71, .iload_n 3, 1), (72, .invokestatic 137, 3), (75, .iload_n 3, 1), (76, .invokestatic 140, 3), (79, .invokevirtual 130, 3), (82, .iconst 1, 1), (83, .ireturn, 1)] : List (Nat × Instr × Nat)).all fun q => decide (decode cX1_writeNext q.1 = .ok (q.2.1, q.2.2))) = true := by decide +kernel
theorem dX1_writeNext_0 : decode cX1_writeNext 0 = .ok (.aload_n 0, 1) := dd_get dm_X1_writeNext_0 0 rfl
theorem dX1_writeNext_1 : decode cX1_writeNext 1 = .ok (.aload_n 1, 1) := dd_get dm_X1_writeNext_0 1 rfl
theorem dX1_writeNext_2 : decode cX1_writeNext 2 = .ok (.invokevirtual 123, 3) := dd_get dm_X1_writeNext_0 2 rfl
theorem dX1_writeNext_5 : decode cX1_writeNext 5 = .ok (.ifCond .ne 30, 3) := dd_get dm_X1_writeNext_0 3 rfl
theorem dX1_writeNext_8 : decode cX1_writeNext 8 = .ok (.aload_n 0, 1) := dd_get dm_X1_writeNext_0 4 rfl
theorem dX1_writeNext_9 : decode cX1_writeNext 9 = .ok (.aload_n 1, 1) := dd_get dm_X1_writeNext_0 5 rfl
theorem dX1_writeNext_10 : decode cX1_writeNext 10 = .ok (.iconst 3, 1) := dd_get dm_X1_writeNext_0 6 rfl
theorem dX1_writeNext_11 : decode cX1_writeNext 11 = .ok (.invokevirtual 127, 3) := dd_get dm_X1_writeNext_0 7 rfl
theorem dX1_writeNext_14 : decode cX1_writeNext 14 = .ok (.ifCond .ne 21, 3) := dd_get dm_X1_writeNext_0 8 rfl
theorem dX1_writeNext_17 : decode cX1_writeNext 17 = .ok (.aload_n 0, 1) := dd_get dm_X1_writeNext_0 9 rfl
theorem dX1_writeNext_18 : decode cX1_writeNext 18 = .ok (.aload_n 1, 1) := dd_get dm_X1_writeNext_0 10 rfl
theorem dX1_writeNext_19 : decode cX1_writeNext 19 = .ok (.iconst 4, 1) := dd_get dm_X1_writeNext_0 11 rfl
theorem dX1_writeNext_20 : decode cX1_writeNext 20 = .ok (.invokevirtual 127, 3) := dd_get dm_X1_writeNext_0 12 rfl
theorem dX1_writeNext_23 : decode cX1_writeNext 23 = .ok (.ifCond .ne 12, 3) := dd_get dm_X1_writeNext_0 13 rfl
theorem dX1_writeNext_26 : decode cX1_writeNext 26 = .ok (.aload_n 0, 1) := dd_get dm_X1_writeNext_0 14 rfl
theorem dX1_writeNext_27 : decode cX1_writeNext 27 = .ok (.aload_n 1, 1) := dd_get dm_X1_writeNext_0 15 rfl
theorem dX1_writeNext_28 : decode cX1_writeNext 28 = .ok (.iconst 5, 1) := dd_get dm_X1_writeNext_0 16 rfl
theorem dX1_writeNext_29 : decode cX1_writeNext 29 = .ok (.invokevirtual 127, 3) := dd_get dm_X1_writeNext_0 17 rfl
theorem dX1_writeNext_32 : decode cX1_writeNext 32 = .ok (.ifCond .eq 5, 3) := dd_get dm_X1_writeNext_0 18 rfl
theorem dX1_writeNext_35 : decode cX1_writeNext 35 = .ok (.iconst 1, 1) := dd_get dm_X1_writeNext_0 19 rfl
theorem dX1_writeNext_36 : decode cX1_writeNext 36 = .ok (.ireturn, 1) := dd_get dm_X1_writeNext_0 20 rfl
theorem dX1_writeNext_37 : decode cX1_writeNext 37 = .ok (.aload_n 0, 1) := dd_get dm_X1_writeNext_0 21 rfl
theorem dX1_writeNext_38 : decode cX1_writeNext 38 = .ok (.iload_n 2, 1) := dd_get dm_X1_writeNext_0 22 rfl
theorem dX1_writeNext_39 : decode cX1_writeNext 39 = .ok (.invokevirtual 74, 3) := dd_get dm_X1_writeNext_0 23 rfl
theorem dX1_writeNext_42 : decode cX1_writeNext 42 = .ok (.ifCond .eq 12, 3) := dd_get dm_X1_writeNext_0 24 rfl
theorem dX1_writeNext_45 : decode cX1_writeNext 45 = .ok (.aload_n 1, 1) := dd_get dm_X1_writeNext_0 25 rfl
theorem dX1_writeNext_46 : decode cX1_writeNext 46 = .ok (.iconst 2, 1) := dd_get dm_X1_writeNext_0 26 rfl
theorem dX1_writeNext_47 : decode cX1_writeNext 47 = .ok (.iconst 0, 1) := dd_get dm_X1_writeNext_0 27 rfl
theorem dX1_writeNext_48 : decode cX1_writeNext 48 = .ok (.iconst 0, 1) := dd_get dm_X1_writeNext_0 28 rfl
theorem dX1_writeNext_49 : decode cX1_writeNext 49 = .ok (.invokevirtual 130, 3) := dd_get dm_X1_writeNext_0 29 rfl
theorem dX1_writeNext_52 : decode cX1_writeNext 52 = .ok (.iconst 1, 1) := dd_get dm_X1_writeNext_0 30 rfl
theorem dX1_writeNext_53 : decode cX1_writeNext 53 = .ok (.ireturn, 1) := dd_get dm_X1_writeNext_0 31 rfl
theorem dX1_writeNext_54 : decode cX1_writeNext 54 = .ok (.aload_n 0, 1) := dd_get dm_X1_writeNext_0 32 rfl
theorem dX1_writeNext_55 : decode cX1_writeNext 55 = .ok (.getfield 19, 3) := dd_get dm_X1_writeNext_0 33 rfl
theorem dX1_writeNext_58 : decode cX1_writeNext 58 = .ok (.invokevirtual 134, 3) := dd_get dm_X1_writeNext_0 34 rfl
theorem dX1_writeNext_61 : decode cX1_writeNext 61 = .ok (.istore_n 3, 1) := dd_get dm_X1_writeNext_0 35 rfl
theorem dX1_writeNext_62 : decode cX1_writeNext 62 = .ok (.iload_n 3, 1) := dd_get dm_X1_writeNext_0 36 rfl
theorem dX1_writeNext_63 : decode cX1_writeNext 63 = .ok (.iconst (-1), 1) := dd_get dm_X1_writeNext_0 37 rfl
theorem dX1_writeNext_64 : decode cX1_writeNext 64 = .ok (.if_icmp .ne 5, 3) := dd_get dm_X1_writeNext_0 38 rfl
theorem dX1_writeNext_67 : decode cX1_writeNext 67 = .ok (.iconst 0, 1) := dd_get dm_X1_writeNext_0 39 rfl
theorem dX1_writeNext_68 : decode cX1_writeNext 68 = .ok (.ireturn, 1) := dd_get dm_X1_writeNext_0 40 rfl
theorem dX1_writeNext_69 : decode cX1_writeNext 69 = .ok (.aload_n 1, 1) := dd_get dm_X1_writeNext_0 41 rfl
theorem dX1_writeNext_70 : decode cX1_writeNext 70 = .ok (.iconst 1, 1) := dd_get dm_X1_writeNext_0 42 rfl
theorem dX1_writeNext_71 : decode cX1_writeNext 71 = .ok (.iload_n 3, 1) := dd_get dm_X1_writeNext_0 43 rfl
theorem dX1_writeNext_72 : decode cX1_writeNext 72 = .ok (.invokestatic 137, 3) := dd_get dm_X1_writeNext_0 44 rfl
theorem dX1_writeNext_75 : decode cX1_writeNext 75 = .ok (.iload_n 3, 1) := dd_get dm_X1_writeNext_0 45 rfl
theorem dX1_writeNext_76 : decode cX1_writeNext 76 = .ok (.invokestatic 140, 3) := dd_get dm_X1_writeNext_0 46 rfl
theorem dX1_writeNext_79 : decode cX1_writeNext 79 = .ok (.invokevirtual 130, 3) := dd_get dm_X1_writeNext_0 47 rfl
theorem dX1_writeNext_82 : decode cX1_writeNext 82 = .ok (.iconst 1, 1) := dd_get dm_X1_writeNext_0 48 rfl
theorem dX1_writeNext_83 : decode cX1_writeNext 83 = .ok (.ireturn, 1) := dd_get dm_X1_writeNext_0 49 rfl
theorem dm_X1_writeTwins_0 : (([(0, .iconst 0, 1), (1, .istore_n 2, 1), (2, .iload_n 2, 1), (3, .aload_n 0, 1), (4, .getfield 9, 3), (7, .getfield 143, 3), (10, .if_icmp .ge 60, 3), (13, .aload_n 0, 1), (14, .iload_n 2, 1), (15, .invokevirtual 77, 3), (18, .istore_n 3, 1), (19, .iconst 0, 1), (20, .istore 4, 2), (22, .iload_n 3, 1), (23, .ifCond .eq 41, 3), (26, .iload 4, 2), (28, .aload_n 0, 1), (29, .getfield 9, 3), (32, .getfield 143, 3), (35, .if_icmp .ge 29, 3), (38, .iload_n 3, 1), (39, .iload 4, 2), (41, .invokestatic 81, 3), (44, .ifCond .eq 14, 3), (47, .aload_n 1, 1), (48, .bipush 6, 2), (50, .iload_n 2, 1), (51, .iload 4, 2), (53, .invokevirtual 130, 3), (56, .iconst 1, 1), (57, .ireturn, 1), (58, .iinc 4 1, 3), (61, .goto (-39), 3), (64, .iinc 2 1, 3), (67, .goto (-65), 3), (70, .iconst 0, 1), (71, .ireturn, 1)] : List (Nat × Instr × Nat)).all fun q => decide (decode cX1_writeTwins q.1 = .ok (q.2.1, q.2.2))) = true := by decide +kernel
theorem dX1_writeTwins_0 : decode cX1_writeTwins 0 = .ok (.iconst 0, 1) := dd_get dm_X1_writeTwins_0 0 rfl
theorem dX1_writeTwins_1 : decode cX1_writeTwins 1 = .ok (.istore_n 2, 1) := dd_get dm_X1_writeTwins_0 1 rfl
theorem dX1_writeTwins_2 : decode cX1_writeTwins 2 = .ok (.iload_n 2, 1) := dd_get dm_X1_writeTwins_0 2 rfl
theorem dX1_writeTwins_3 : decode cX1_writeTwins 3 = .ok (.aload_n 0, 1) := dd_get dm_X1_writeTwins_0 3 rfl
theorem dX1_writeTwins_4 : decode cX1_writeTwins 4 = .ok (.getfield 9, 3) := dd_get dm_X1_writeTwins_0 4 rfl
theorem dX1_writeTwins_7 : decode cX1_writeTwins 7 = .ok (.getfield 143, 3) := dd_get dm_X1_writeTwins_0 5 rfl
theorem dX1_writeTwins_10 : decode cX1_writeTwins 10 = .ok (.if_icmp .ge 60, 3) := dd_get dm_X1_writeTwins_0 6 rfl
theorem dX1_writeTwins_13 : decode cX1_writeTwins 13 = .ok (.aload_n 0, 1) := dd_get dm_X1_writeTwins_0 7 rfl
theorem dX1_writeTwins_14 : decode cX1_writeTwins 14 = .ok (.iload_n 2, 1) := dd_get dm_X1_writeTwins_0 8 rfl
theorem dX1_writeTwins_15 : decode cX1_writeTwins 15 = .ok (.invokevirtual 77, 3) := dd_get dm_X1_writeTwins_0 9 rfl
theorem dX1_writeTwins_18 : decode cX1_writeTwins 18 = .ok (.istore_n 3, 1) := dd_get dm_X1_writeTwins_0 10 rfl
theorem dX1_writeTwins_19 : decode cX1_writeTwins 19 = .ok (.iconst 0, 1) := dd_get dm_X1_writeTwins_0 11 rfl
theorem dX1_writeTwins_20 : decode cX1_writeTwins 20 = .ok (.istore 4, 2) := dd_get dm_X1_writeTwins_0 12 rfl
theorem dX1_writeTwins_22 : decode cX1_writeTwins 22 = .ok (.iload_n 3, 1) := dd_get dm_X1_writeTwins_0 13 rfl
theorem dX1_writeTwins_23 : decode cX1_writeTwins 23 = .ok (.ifCond .eq 41, 3) := dd_get dm_X1_writeTwins_0 14 rfl
theorem dX1_writeTwins_26 : decode cX1_writeTwins 26 = .ok (.iload 4, 2) := dd_get dm_X1_writeTwins_0 15 rfl
theorem dX1_writeTwins_28 : decode cX1_writeTwins 28 = .ok (.aload_n 0, 1) := dd_get dm_X1_writeTwins_0 16 rfl
theorem dX1_writeTwins_29 : decode cX1_writeTwins 29 = .ok (.getfield 9, 3) := dd_get dm_X1_writeTwins_0 17 rfl
theorem dX1_writeTwins_32 : decode cX1_writeTwins 32 = .ok (.getfield 143, 3) := dd_get dm_X1_writeTwins_0 18 rfl
theorem dX1_writeTwins_35 : decode cX1_writeTwins 35 = .ok (.if_icmp .ge 29, 3) := dd_get dm_X1_writeTwins_0 19 rfl
theorem dX1_writeTwins_38 : decode cX1_writeTwins 38 = .ok (.iload_n 3, 1) := dd_get dm_X1_writeTwins_0 20 rfl
theorem dX1_writeTwins_39 : decode cX1_writeTwins 39 = .ok (.iload 4, 2) := dd_get dm_X1_writeTwins_0 21 rfl
theorem dX1_writeTwins_41 : decode cX1_writeTwins 41 = .ok (.invokestatic 81, 3) := dd_get dm_X1_writeTwins_0 22 rfl
theorem dX1_writeTwins_44 : decode cX1_writeTwins 44 = .ok (.ifCond .eq 14, 3) := dd_get dm_X1_writeTwins_0 23 rfl
theorem dX1_writeTwins_47 : decode cX1_writeTwins 47 = .ok (.aload_n 1, 1) := dd_get dm_X1_writeTwins_0 24 rfl
theorem dX1_writeTwins_48 : decode cX1_writeTwins 48 = .ok (.bipush 6, 2) := dd_get dm_X1_writeTwins_0 25 rfl
theorem dX1_writeTwins_50 : decode cX1_writeTwins 50 = .ok (.iload_n 2, 1) := dd_get dm_X1_writeTwins_0 26 rfl
theorem dX1_writeTwins_51 : decode cX1_writeTwins 51 = .ok (.iload 4, 2) := dd_get dm_X1_writeTwins_0 27 rfl
theorem dX1_writeTwins_53 : decode cX1_writeTwins 53 = .ok (.invokevirtual 130, 3) := dd_get dm_X1_writeTwins_0 28 rfl
theorem dX1_writeTwins_56 : decode cX1_writeTwins 56 = .ok (.iconst 1, 1) := dd_get dm_X1_writeTwins_0 29 rfl
theorem dX1_writeTwins_57 : decode cX1_writeTwins 57 = .ok (.ireturn, 1) := dd_get dm_X1_writeTwins_0 30 rfl
theorem dX1_writeTwins_58 : decode cX1_writeTwins 58 = .ok (.iinc 4 1, 3) := dd_get dm_X1_writeTwins_0 31 rfl
theorem dX1_writeTwins_61 : decode cX1_writeTwins 61 = .ok (.goto (-39), 3) := dd_get dm_X1_writeTwins_0 32 rfl
theorem dX1_writeTwins_64 : decode cX1_writeTwins 64 = .ok (.iinc 2 1, 3) := dd_get dm_X1_writeTwins_0 33 rfl
theorem dX1_writeTwins_67 : decode cX1_writeTwins 67 = .ok (.goto (-65), 3) := dd_get dm_X1_writeTwins_0 34 rfl
theorem dX1_writeTwins_70 : decode cX1_writeTwins 70 = .ok (.iconst 0, 1) := dd_get dm_X1_writeTwins_0 35 rfl
theorem dX1_writeTwins_71 : decode cX1_writeTwins 71 = .ok (.ireturn, 1) := dd_get dm_X1_writeTwins_0 36 rfl
theorem dm_X1_writeAlone_0 : (([(0, .iconst 0, 1), (1, .istore_n 3, 1), (2, .iload_n 3, 1), (3, .aload_n 0, 1), (4, .getfield 9, 3), (7, .getfield 143, 3), (10, .if_icmp .ge 38, 3), (13, .aload_n 0, 1), (14, .getfield 9, 3), (17, .iload_n 3, 1), (18, .invokevirtual 64, 3), (21, .ifCond .eq 21, 3), (24, .aload_n 0, 1), (25, .iload_n 2, 1), (26, .iload_n 3, 1), (27, .invokevirtual 84, 3), (30, .ifCond .eq 12, 3), (33, .aload_n 1, 1), (34, .iload_n 2, 1), (35, .iload_n 3, 1), (36, .iconst 0, 1), (37, .invokevirtual 130, 3), (40, .iconst 1, 1), (41, .ireturn, 1), (42, .iinc 3 1, 3), (45, .goto (-43), 3), (48, .iconst 0, 1), (49, .ireturn, 1)] : List (Nat × Instr × Nat)).all fun q => decide (decode cX1_writeAlone q.1 = .ok (q.2.1, q.2.2))) = true := by decide +kernel
theorem dX1_writeAlone_0 : decode cX1_writeAlone 0 = .ok (.iconst 0, 1) := dd_get dm_X1_writeAlone_0 0 rfl
theorem dX1_writeAlone_1 : decode cX1_writeAlone 1 = .ok (.istore_n 3, 1) := dd_get dm_X1_writeAlone_0 1 rfl
theorem dX1_writeAlone_2 : decode cX1_writeAlone 2 = .ok (.iload_n 3, 1) := dd_get dm_X1_writeAlone_0 2 rfl
theorem dX1_writeAlone_3 : decode cX1_writeAlone 3 = .ok (.aload_n 0, 1) := dd_get dm_X1_writeAlone_0 3 rfl
theorem dX1_writeAlone_4 : decode cX1_writeAlone 4 = .ok (.getfield 9, 3) := dd_get dm_X1_writeAlone_0 4 rfl
theorem dX1_writeAlone_7 : decode cX1_writeAlone 7 = .ok (.getfield 143, 3) := dd_get dm_X1_writeAlone_0 5 rfl
theorem dX1_writeAlone_10 : decode cX1_writeAlone 10 = .ok (.if_icmp .ge 38, 3) := dd_get dm_X1_writeAlone_0 6 rfl
theorem dX1_writeAlone_13 : decode cX1_writeAlone 13 = .ok (.aload_n 0, 1) := dd_get dm_X1_writeAlone_0 7 rfl
theorem dX1_writeAlone_14 : decode cX1_writeAlone 14 = .ok (.getfield 9, 3) := dd_get dm_X1_writeAlone_0 8 rfl
theorem dX1_writeAlone_17 : decode cX1_writeAlone 17 = .ok (.iload_n 3, 1) := dd_get dm_X1_writeAlone_0 9 rfl
theorem dX1_writeAlone_18 : decode cX1_writeAlone 18 = .ok (.invokevirtual 64, 3) := dd_get dm_X1_writeAlone_0 10 rfl
theorem dX1_writeAlone_21 : decode cX1_writeAlone 21 = .ok (.ifCond .eq 21, 3) := dd_get dm_X1_writeAlone_0 11 rfl
theorem dX1_writeAlone_24 : decode cX1_writeAlone 24 = .ok (.aload_n 0, 1) := dd_get dm_X1_writeAlone_0 12 rfl
theorem dX1_writeAlone_25 : decode cX1_writeAlone 25 = .ok (.iload_n 2, 1) := dd_get dm_X1_writeAlone_0 13 rfl
theorem dX1_writeAlone_26 : decode cX1_writeAlone 26 = .ok (.iload_n 3, 1) := dd_get dm_X1_writeAlone_0 14 rfl
theorem dX1_writeAlone_27 : decode cX1_writeAlone 27 = .ok (.invokevirtual 84, 3) := dd_get dm_X1_writeAlone_0 15 rfl
theorem dX1_writeAlone_30 : decode cX1_writeAlone 30 = .ok (.ifCond .eq 12, 3) := dd_get dm_X1_writeAlone_0 16 rfl
theorem dX1_writeAlone_33 : decode cX1_writeAlone 33 = .ok (.aload_n 1, 1) := dd_get dm_X1_writeAlone_0 17 rfl
theorem dX1_writeAlone_34 : decode cX1_writeAlone 34 = .ok (.iload_n 2, 1) := dd_get dm_X1_writeAlone_0 18 rfl
theorem dX1_writeAlone_35 : decode cX1_writeAlone 35 = .ok (.iload_n 3, 1) := dd_get dm_X1_writeAlone_0 19 rfl
theorem dX1_writeAlone_36 : decode cX1_writeAlone 36 = .ok (.iconst 0, 1) := dd_get dm_X1_writeAlone_0 20 rfl
theorem dX1_writeAlone_37 : decode cX1_writeAlone 37 = .ok (.invokevirtual 130, 3) := dd_get dm_X1_writeAlone_0 21 rfl
theorem dX1_writeAlone_40 : decode cX1_writeAlone 40 = .ok (.iconst 1, 1) := dd_get dm_X1_writeAlone_0 22 rfl
theorem dX1_writeAlone_41 : decode cX1_writeAlone 41 = .ok (.ireturn, 1) := dd_get dm_X1_writeAlone_0 23 rfl
theorem dX1_writeAlone_42 : decode cX1_writeAlone 42 = .ok (.iinc 3 1, 3) := dd_get dm_X1_writeAlone_0 24 rfl
theorem dX1_writeAlone_45 : decode cX1_writeAlone 45 = .ok (.goto (-43), 3) := dd_get dm_X1_writeAlone_0 25 rfl
theorem dX1_writeAlone_48 : decode cX1_writeAlone 48 = .ok (.iconst 0, 1) := dd_get dm_X1_writeAlone_0 26 rfl
theorem dX1_writeAlone_49 : decode cX1_writeAlone 49 = .ok (.ireturn, 1) := dd_get dm_X1_writeAlone_0 27 rfl
theorem dm_X2_init_0 : (([(0, .aload_n 0, 1), (1, .invokespecial 3, 3), (4, .aload_n 0, 1), (5, .bipush 12, 2), (7, .newarray .int, 2), (9, .putfield 9, 3), (12, .aload_n 0, 1), (13, .bipush 12, 2), (15, .newarray .int, 2), (17, .putfield 15, 3), (20, .aload_n 0, 1), (21, .bipush 12, 2), (23, .newarray .int, 2), (25, .putfield 18, 3), (28, .aload_n 0, 1), (29, .bipush 12, 2), (31, .newarray .int, 2), (33, .putfield 21, 3), (36, .aload_n 0, 1), (37, .bipush 12, 2), (39, .newarray .int, 2), (41, .putfield 24, 3), (44, .aload_n 0, 1), (45, .bipush 12, 2), (47, .newarray .int, 2), (49, .putfield 27, 3), (52, .aload_n 0, 1), (53, .bipush 12, 2), (55, .bipush 12, 2), (57, .multianewarray 30 2, 4), (61, .putfield 32, 3), (64, .aload_n 0, 1), (65, .iconst 0, 1), (66, .putfield 35, 3), (69, .aload_n 0, 1), (70, .iconst 0, 1), (71, .putfield 39, 3), (74, .aload_n 0, 1), (75, .iconst 0, 1), (76, .putfield 42, 3), (79, .aload_n 0, 1), (80, .aload_n 1, 1), (81, .putfield 46, 3), (84, .return_, 1)] : List (Nat × Instr × Nat)).all fun q => decide (decode cX2_init q.1 = .ok (q.2.1, q.2.2))) = true := by decide +kernel
theorem dX2_init_0 : decode cX2_init 0 = .ok (.aload_n 0, 1) := dd_get dm_X2_init_0 0 rfl
theorem dX2_init_1 : decode cX2_init 1 = .ok (.invokespecial 3, 3) := dd_get dm_X2_init_0 1 rfl
theorem dX2_init_4 : decode cX2_init 4 = .ok (.aload_n 0, 1) := dd_get dm_X2_init_0 2 rfl
theorem dX2_init_5 : decode cX2_init 5 = .ok (.bipush 12, 2) := dd_get dm_X2_init_0 3 rfl
theorem dX2_init_7 : decode cX2_init 7 = .ok (.newarray .int, 2) := dd_get dm_X2_init_0 4 rfl
theorem dX2_init_9 : decode cX2_init 9 = .ok (.putfield 9, 3) := dd_get dm_X2_init_0 5 rfl
theorem dX2_init_12 : decode cX2_init 12 = .ok (.aload_n 0, 1) := dd_get dm_X2_init_0 6 rfl
theorem dX2_init_13 : decode cX2_init 13 = .ok (.bipush 12, 2) := dd_get dm_X2_init_0 7 rfl
theorem dX2_init_15 : decode cX2_init 15 = .ok (.newarray .int, 2) := dd_get dm_X2_init_0 8 rfl
theorem dX2_init_17 : decode cX2_init 17 = .ok (.putfield 15, 3) := dd_get dm_X2_init_0 9 rfl
theorem dX2_init_20 : decode cX2_init 20 = .ok (.aload_n 0, 1) := dd_get dm_X2_init_0 10 rfl
theorem dX2_init_21 : decode cX2_init 21 = .ok (.bipush 12, 2) := dd_get dm_X2_init_0 11 rfl
theorem dX2_init_23 : decode cX2_init 23 = .ok (.newarray .int, 2) := dd_get dm_X2_init_0 12 rfl
theorem dX2_init_25 : decode cX2_init 25 = .ok (.putfield 18, 3) := dd_get dm_X2_init_0 13 rfl
theorem dX2_init_28 : decode cX2_init 28 = .ok (.aload_n 0, 1) := dd_get dm_X2_init_0 14 rfl
theorem dX2_init_29 : decode cX2_init 29 = .ok (.bipush 12, 2) := dd_get dm_X2_init_0 15 rfl
theorem dX2_init_31 : decode cX2_init 31 = .ok (.newarray .int, 2) := dd_get dm_X2_init_0 16 rfl
theorem dX2_init_33 : decode cX2_init 33 = .ok (.putfield 21, 3) := dd_get dm_X2_init_0 17 rfl
theorem dX2_init_36 : decode cX2_init 36 = .ok (.aload_n 0, 1) := dd_get dm_X2_init_0 18 rfl
theorem dX2_init_37 : decode cX2_init 37 = .ok (.bipush 12, 2) := dd_get dm_X2_init_0 19 rfl
theorem dX2_init_39 : decode cX2_init 39 = .ok (.newarray .int, 2) := dd_get dm_X2_init_0 20 rfl
theorem dX2_init_41 : decode cX2_init 41 = .ok (.putfield 24, 3) := dd_get dm_X2_init_0 21 rfl
theorem dX2_init_44 : decode cX2_init 44 = .ok (.aload_n 0, 1) := dd_get dm_X2_init_0 22 rfl
theorem dX2_init_45 : decode cX2_init 45 = .ok (.bipush 12, 2) := dd_get dm_X2_init_0 23 rfl
theorem dX2_init_47 : decode cX2_init 47 = .ok (.newarray .int, 2) := dd_get dm_X2_init_0 24 rfl
theorem dX2_init_49 : decode cX2_init 49 = .ok (.putfield 27, 3) := dd_get dm_X2_init_0 25 rfl
theorem dX2_init_52 : decode cX2_init 52 = .ok (.aload_n 0, 1) := dd_get dm_X2_init_0 26 rfl
theorem dX2_init_53 : decode cX2_init 53 = .ok (.bipush 12, 2) := dd_get dm_X2_init_0 27 rfl
theorem dX2_init_55 : decode cX2_init 55 = .ok (.bipush 12, 2) := dd_get dm_X2_init_0 28 rfl
theorem dX2_init_57 : decode cX2_init 57 = .ok (.multianewarray 30 2, 4) := dd_get dm_X2_init_0 29 rfl
theorem dX2_init_61 : decode cX2_init 61 = .ok (.putfield 32, 3) := dd_get dm_X2_init_0 30 rfl
theorem dX2_init_64 : decode cX2_init 64 = .ok (.aload_n 0, 1) := dd_get dm_X2_init_0 31 rfl
theorem dX2_init_65 : decode cX2_init 65 = .ok (.iconst 0, 1) := dd_get dm_X2_init_0 32 rfl
theorem dX2_init_66 : decode cX2_init 66 = .ok (.putfield 35, 3) := dd_get dm_X2_init_0 33 rfl
theorem dX2_init_69 : decode cX2_init 69 = .ok (.aload_n 0, 1) := dd_get dm_X2_init_0 34 rfl
theorem dX2_init_70 : decode cX2_init 70 = .ok (.iconst 0, 1) := dd_get dm_X2_init_0 35 rfl
theorem dX2_init_71 : decode cX2_init 71 = .ok (.putfield 39, 3) := dd_get dm_X2_init_0 36 rfl
theorem dX2_init_74 : decode cX2_init 74 = .ok (.aload_n 0, 1) := dd_get dm_X2_init_0 37 rfl
theorem dX2_init_75 : decode cX2_init 75 = .ok (.iconst 0, 1) := dd_get dm_X2_init_0 38 rfl
theorem dX2_init_76 : decode cX2_init 76 = .ok (.putfield 42, 3) := dd_get dm_X2_init_0 39 rfl
theorem dX2_init_79 : decode cX2_init 79 = .ok (.aload_n 0, 1) := dd_get dm_X2_init_0 40 rfl
theorem dX2_init_80 : decode cX2_init 80 = .ok (.aload_n 1, 1) := dd_get dm_X2_init_0 41 rfl
theorem dX2_init_81 : decode cX2_init 81 = .ok (.putfield 46, 3) := dd_get dm_X2_init_0 42 rfl
theorem dX2_init_84 : decode cX2_init 84 = .ok (.return_, 1) := dd_get dm_X2_init_0 43 rfl
theorem dm_X2_isLamp_0 : (([(0, .iload_n 1, 1), (1, .ifCond .lt 15, 3), (4, .iload_n 1, 1), (5, .aload_n 0, 1), (6, .getfield 39, 3), (9, .if_icmp .ge 7, 3), (12, .iconst 1, 1), (13, .goto 4, 3), (16, .iconst 0, 1), (17, .ireturn, 1)] : List (Nat × Instr × Nat)).all fun q => decide (decode cX2_isLamp q.1 = .ok (q.2.1, q.2.2))) = true := by decide +kernel
theorem dX2_isLamp_0 : decode cX2_isLamp 0 = .ok (.iload_n 1, 1) := dd_get dm_X2_isLamp_0 0 rfl
theorem dX2_isLamp_1 : decode cX2_isLamp 1 = .ok (.ifCond .lt 15, 3) := dd_get dm_X2_isLamp_0 1 rfl
theorem dX2_isLamp_4 : decode cX2_isLamp 4 = .ok (.iload_n 1, 1) := dd_get dm_X2_isLamp_0 2 rfl
theorem dX2_isLamp_5 : decode cX2_isLamp 5 = .ok (.aload_n 0, 1) := dd_get dm_X2_isLamp_0 3 rfl
theorem dX2_isLamp_6 : decode cX2_isLamp 6 = .ok (.getfield 39, 3) := dd_get dm_X2_isLamp_0 4 rfl
theorem dX2_isLamp_9 : decode cX2_isLamp 9 = .ok (.if_icmp .ge 7, 3) := dd_get dm_X2_isLamp_0 5 rfl
theorem dX2_isLamp_12 : decode cX2_isLamp 12 = .ok (.iconst 1, 1) := dd_get dm_X2_isLamp_0 6 rfl
theorem dX2_isLamp_13 : decode cX2_isLamp 13 = .ok (.goto 4, 3) := dd_get dm_X2_isLamp_0 7 rfl
theorem dX2_isLamp_16 : decode cX2_isLamp 16 = .ok (.iconst 0, 1) := dd_get dm_X2_isLamp_0 8 rfl
theorem dX2_isLamp_17 : decode cX2_isLamp 17 = .ok (.ireturn, 1) := dd_get dm_X2_isLamp_0 9 rfl
theorem dm_X2_isLive_0 : (([(0, .aload_n 0, 1), (1, .iload_n 1, 1), (2, .invokevirtual 50, 3), (5, .ifCond .eq 18, 3), (8, .aload_n 0, 1), (9, .getfield 35, 3), (12, .iload_n 1, 1), (13, .invokestatic 54, 3), (16, .ifCond .eq 7, 3), (19, .iconst 1, 1), (20, .goto 4, 3), (23, .iconst 0, 1), (24, .ireturn, 1)] : List (Nat × Instr × Nat)).all fun q => decide (decode cX2_isLive q.1 = .ok (q.2.1, q.2.2))) = true := by decide +kernel
theorem dX2_isLive_0 : decode cX2_isLive 0 = .ok (.aload_n 0, 1) := dd_get dm_X2_isLive_0 0 rfl
theorem dX2_isLive_1 : decode cX2_isLive 1 = .ok (.iload_n 1, 1) := dd_get dm_X2_isLive_0 1 rfl
theorem dX2_isLive_2 : decode cX2_isLive 2 = .ok (.invokevirtual 50, 3) := dd_get dm_X2_isLive_0 2 rfl
theorem dX2_isLive_5 : decode cX2_isLive 5 = .ok (.ifCond .eq 18, 3) := dd_get dm_X2_isLive_0 3 rfl
theorem dX2_isLive_8 : decode cX2_isLive 8 = .ok (.aload_n 0, 1) := dd_get dm_X2_isLive_0 4 rfl
theorem dX2_isLive_9 : decode cX2_isLive 9 = .ok (.getfield 35, 3) := dd_get dm_X2_isLive_0 5 rfl
theorem dX2_isLive_12 : decode cX2_isLive 12 = .ok (.iload_n 1, 1) := dd_get dm_X2_isLive_0 6 rfl
theorem dX2_isLive_13 : decode cX2_isLive 13 = .ok (.invokestatic 54, 3) := dd_get dm_X2_isLive_0 7 rfl
theorem dX2_isLive_16 : decode cX2_isLive 16 = .ok (.ifCond .eq 7, 3) := dd_get dm_X2_isLive_0 8 rfl
theorem dX2_isLive_19 : decode cX2_isLive 19 = .ok (.iconst 1, 1) := dd_get dm_X2_isLive_0 9 rfl
theorem dX2_isLive_20 : decode cX2_isLive 20 = .ok (.goto 4, 3) := dd_get dm_X2_isLive_0 10 rfl
theorem dX2_isLive_23 : decode cX2_isLive 23 = .ok (.iconst 0, 1) := dd_get dm_X2_isLive_0 11 rfl
theorem dX2_isLive_24 : decode cX2_isLive 24 = .ok (.ireturn, 1) := dd_get dm_X2_isLive_0 12 rfl
theorem dm_X2_liveCount_0 : (([(0, .aload_n 0, 1), (1, .getfield 35, 3), (4, .invokestatic 58, 3), (7, .ireturn, 1)] : List (Nat × Instr × Nat)).all fun q => decide (decode cX2_liveCount q.1 = .ok (q.2.1, q.2.2))) = true := by decide +kernel
theorem dX2_liveCount_0 : decode cX2_liveCount 0 = .ok (.aload_n 0, 1) := dd_get dm_X2_liveCount_0 0 rfl
theorem dX2_liveCount_1 : decode cX2_liveCount 1 = .ok (.getfield 35, 3) := dd_get dm_X2_liveCount_0 1 rfl
theorem dX2_liveCount_4 : decode cX2_liveCount 4 = .ok (.invokestatic 58, 3) := dd_get dm_X2_liveCount_0 2 rfl
theorem dX2_liveCount_7 : decode cX2_liveCount 7 = .ok (.ireturn, 1) := dd_get dm_X2_liveCount_0 3 rfl
theorem dm_X2_firstLive_0 : (([(0, .iconst 0, 1), (1, .istore_n 1, 1), (2, .iload_n 1, 1), (3, .aload_n 0, 1), (4, .getfield 39, 3), (7, .if_icmp .ge 22, 3), (10, .aload_n 0, 1), (11, .getfield 35, 3), (14, .iload_n 1, 1), (15, .invokestatic 54, 3), (18, .ifCond .eq 5, 3), (21, .iload_n 1, 1), (22, .ireturn, 1), (23, .iinc 1 1, 3), (26, .goto (-24), 3), (29, .iconst (-1), 1), (30, .ireturn, 1)] : List (Nat × Instr × Nat)).all fun q => decide (decode cX2_firstLive q.1 = .ok (q.2.1, q.2.2))) = true := by decide +kernel
theorem dX2_firstLive_0 : decode cX2_firstLive 0 = .ok (.iconst 0, 1) := dd_get dm_X2_firstLive_0 0 rfl
theorem dX2_firstLive_1 : decode cX2_firstLive 1 = .ok (.istore_n 1, 1) := dd_get dm_X2_firstLive_0 1 rfl
theorem dX2_firstLive_2 : decode cX2_firstLive 2 = .ok (.iload_n 1, 1) := dd_get dm_X2_firstLive_0 2 rfl
theorem dX2_firstLive_3 : decode cX2_firstLive 3 = .ok (.aload_n 0, 1) := dd_get dm_X2_firstLive_0 3 rfl
theorem dX2_firstLive_4 : decode cX2_firstLive 4 = .ok (.getfield 39, 3) := dd_get dm_X2_firstLive_0 4 rfl
theorem dX2_firstLive_7 : decode cX2_firstLive 7 = .ok (.if_icmp .ge 22, 3) := dd_get dm_X2_firstLive_0 5 rfl
theorem dX2_firstLive_10 : decode cX2_firstLive 10 = .ok (.aload_n 0, 1) := dd_get dm_X2_firstLive_0 6 rfl
theorem dX2_firstLive_11 : decode cX2_firstLive 11 = .ok (.getfield 35, 3) := dd_get dm_X2_firstLive_0 7 rfl
theorem dX2_firstLive_14 : decode cX2_firstLive 14 = .ok (.iload_n 1, 1) := dd_get dm_X2_firstLive_0 8 rfl
theorem dX2_firstLive_15 : decode cX2_firstLive 15 = .ok (.invokestatic 54, 3) := dd_get dm_X2_firstLive_0 9 rfl
theorem dX2_firstLive_18 : decode cX2_firstLive 18 = .ok (.ifCond .eq 5, 3) := dd_get dm_X2_firstLive_0 10 rfl
theorem dX2_firstLive_21 : decode cX2_firstLive 21 = .ok (.iload_n 1, 1) := dd_get dm_X2_firstLive_0 11 rfl
theorem dX2_firstLive_22 : decode cX2_firstLive 22 = .ok (.ireturn, 1) := dd_get dm_X2_firstLive_0 12 rfl
theorem dX2_firstLive_23 : decode cX2_firstLive 23 = .ok (.iinc 1 1, 3) := dd_get dm_X2_firstLive_0 13 rfl
theorem dX2_firstLive_26 : decode cX2_firstLive 26 = .ok (.goto (-24), 3) := dd_get dm_X2_firstLive_0 14 rfl
theorem dX2_firstLive_29 : decode cX2_firstLive 29 = .ok (.iconst (-1), 1) := dd_get dm_X2_firstLive_0 15 rfl
theorem dX2_firstLive_30 : decode cX2_firstLive 30 = .ok (.ireturn, 1) := dd_get dm_X2_firstLive_0 16 rfl
theorem dm_X2_worthOf_0 : (([(0, .aload_n 0, 1), (1, .getfield 15, 3), (4, .iload_n 1, 1), (5, .iaload, 1), (6, .iconst 4, 1), (7, .if_icmp .ne 7, 3), (10, .iconst 2, 1), (11, .goto 4, 3), (14, .iconst 1, 1), (15, .ireturn, 1)] : List (Nat × Instr × Nat)).all fun q => decide (decode cX2_worthOf q.1 = .ok (q.2.1, q.2.2))) = true := by decide +kernel
theorem dX2_worthOf_0 : decode cX2_worthOf 0 = .ok (.aload_n 0, 1) := dd_get dm_X2_worthOf_0 0 rfl
theorem dX2_worthOf_1 : decode cX2_worthOf 1 = .ok (.getfield 15, 3) := dd_get dm_X2_worthOf_0 1 rfl
theorem dX2_worthOf_4 : decode cX2_worthOf 4 = .ok (.iload_n 1, 1) := dd_get dm_X2_worthOf_0 2 rfl
theorem dX2_worthOf_5 : decode cX2_worthOf 5 = .ok (.iaload, 1) := dd_get dm_X2_worthOf_0 3 rfl
theorem dX2_worthOf_6 : decode cX2_worthOf 6 = .ok (.iconst 4, 1) := dd_get dm_X2_worthOf_0 4 rfl
theorem dX2_worthOf_7 : decode cX2_worthOf 7 = .ok (.if_icmp .ne 7, 3) := dd_get dm_X2_worthOf_0 5 rfl
theorem dX2_worthOf_10 : decode cX2_worthOf 10 = .ok (.iconst 2, 1) := dd_get dm_X2_worthOf_0 6 rfl
theorem dX2_worthOf_11 : decode cX2_worthOf 11 = .ok (.goto 4, 3) := dd_get dm_X2_worthOf_0 7 rfl
theorem dX2_worthOf_14 : decode cX2_worthOf 14 = .ok (.iconst 1, 1) := dd_get dm_X2_worthOf_0 8 rfl
theorem dX2_worthOf_15 : decode cX2_worthOf 15 = .ok (.ireturn, 1) := dd_get dm_X2_worthOf_0 9 rfl
theorem dm_X2_worthOfLive_0 : (([(0, .iconst 0, 1), (1, .istore_n 1, 1), (2, .iconst 0, 1), (3, .istore_n 2, 1), (4, .iload_n 2, 1), (5, .aload_n 0, 1), (6, .getfield 39, 3), (9, .if_icmp .ge 28, 3), (12, .aload_n 0, 1), (13, .getfield 35, 3), (16, .iload_n 2, 1), (17, .invokestatic 54, 3), (20, .ifCond .eq 11, 3), (23, .iload_n 1, 1), (24, .aload_n 0, 1), (25, .iload_n 2, 1), (26, .invokevirtual 64, 3), (29, .iadd, 1), (30, .istore_n 1, 1), (31, .iinc 2 1, 3), (34, .goto (-30), 3), (37, .iload_n 1, 1), (38, .ireturn, 1)] : List (Nat × Instr × Nat)).all fun q => decide (decode cX2_worthOfLive q.1 = .ok (q.2.1, q.2.2))) = true := by decide +kernel
theorem dX2_worthOfLive_0 : decode cX2_worthOfLive 0 = .ok (.iconst 0, 1) := dd_get dm_X2_worthOfLive_0 0 rfl
theorem dX2_worthOfLive_1 : decode cX2_worthOfLive 1 = .ok (.istore_n 1, 1) := dd_get dm_X2_worthOfLive_0 1 rfl
theorem dX2_worthOfLive_2 : decode cX2_worthOfLive 2 = .ok (.iconst 0, 1) := dd_get dm_X2_worthOfLive_0 2 rfl
theorem dX2_worthOfLive_3 : decode cX2_worthOfLive 3 = .ok (.istore_n 2, 1) := dd_get dm_X2_worthOfLive_0 3 rfl
theorem dX2_worthOfLive_4 : decode cX2_worthOfLive 4 = .ok (.iload_n 2, 1) := dd_get dm_X2_worthOfLive_0 4 rfl
theorem dX2_worthOfLive_5 : decode cX2_worthOfLive 5 = .ok (.aload_n 0, 1) := dd_get dm_X2_worthOfLive_0 5 rfl
theorem dX2_worthOfLive_6 : decode cX2_worthOfLive 6 = .ok (.getfield 39, 3) := dd_get dm_X2_worthOfLive_0 6 rfl
theorem dX2_worthOfLive_9 : decode cX2_worthOfLive 9 = .ok (.if_icmp .ge 28, 3) := dd_get dm_X2_worthOfLive_0 7 rfl
theorem dX2_worthOfLive_12 : decode cX2_worthOfLive 12 = .ok (.aload_n 0, 1) := dd_get dm_X2_worthOfLive_0 8 rfl
theorem dX2_worthOfLive_13 : decode cX2_worthOfLive 13 = .ok (.getfield 35, 3) := dd_get dm_X2_worthOfLive_0 9 rfl
theorem dX2_worthOfLive_16 : decode cX2_worthOfLive 16 = .ok (.iload_n 2, 1) := dd_get dm_X2_worthOfLive_0 10 rfl
theorem dX2_worthOfLive_17 : decode cX2_worthOfLive 17 = .ok (.invokestatic 54, 3) := dd_get dm_X2_worthOfLive_0 11 rfl
theorem dX2_worthOfLive_20 : decode cX2_worthOfLive 20 = .ok (.ifCond .eq 11, 3) := dd_get dm_X2_worthOfLive_0 12 rfl
theorem dX2_worthOfLive_23 : decode cX2_worthOfLive 23 = .ok (.iload_n 1, 1) := dd_get dm_X2_worthOfLive_0 13 rfl
theorem dX2_worthOfLive_24 : decode cX2_worthOfLive 24 = .ok (.aload_n 0, 1) := dd_get dm_X2_worthOfLive_0 14 rfl
theorem dX2_worthOfLive_25 : decode cX2_worthOfLive 25 = .ok (.iload_n 2, 1) := dd_get dm_X2_worthOfLive_0 15 rfl
theorem dX2_worthOfLive_26 : decode cX2_worthOfLive 26 = .ok (.invokevirtual 64, 3) := dd_get dm_X2_worthOfLive_0 16 rfl
theorem dX2_worthOfLive_29 : decode cX2_worthOfLive 29 = .ok (.iadd, 1) := dd_get dm_X2_worthOfLive_0 17 rfl
theorem dX2_worthOfLive_30 : decode cX2_worthOfLive 30 = .ok (.istore_n 1, 1) := dd_get dm_X2_worthOfLive_0 18 rfl
theorem dX2_worthOfLive_31 : decode cX2_worthOfLive 31 = .ok (.iinc 2 1, 3) := dd_get dm_X2_worthOfLive_0 19 rfl
theorem dX2_worthOfLive_34 : decode cX2_worthOfLive 34 = .ok (.goto (-30), 3) := dd_get dm_X2_worthOfLive_0 20 rfl
theorem dX2_worthOfLive_37 : decode cX2_worthOfLive 37 = .ok (.iload_n 1, 1) := dd_get dm_X2_worthOfLive_0 21 rfl
theorem dX2_worthOfLive_38 : decode cX2_worthOfLive 38 = .ok (.ireturn, 1) := dd_get dm_X2_worthOfLive_0 22 rfl
theorem dm_X2_standsAt_0 : (([(0, .iconst 0, 1), (1, .istore_n 2, 1), (2, .iload_n 2, 1), (3, .aload_n 0, 1), (4, .getfield 39, 3), (7, .if_icmp .ge 21, 3), (10, .aload_n 0, 1), (11, .getfield 9, 3), (14, .iload_n 2, 1), (15, .iaload, 1), (16, .iload_n 1, 1), (17, .if_icmp .ne 5, 3), (20, .iconst 1, 1), (21, .ireturn, 1), (22, .iinc 2 1, 3), (25, .goto (-23), 3), (28, .iconst 0, 1), (29, .ireturn, 1)] : List (Nat × Instr × Nat)).all fun q => decide (decode cX2_standsAt q.1 = .ok (q.2.1, q.2.2))) = true := by decide +kernel
theorem dX2_standsAt_0 : decode cX2_standsAt 0 = .ok (.iconst 0, 1) := dd_get dm_X2_standsAt_0 0 rfl
theorem dX2_standsAt_1 : decode cX2_standsAt 1 = .ok (.istore_n 2, 1) := dd_get dm_X2_standsAt_0 1 rfl
theorem dX2_standsAt_2 : decode cX2_standsAt 2 = .ok (.iload_n 2, 1) := dd_get dm_X2_standsAt_0 2 rfl
theorem dX2_standsAt_3 : decode cX2_standsAt 3 = .ok (.aload_n 0, 1) := dd_get dm_X2_standsAt_0 3 rfl
theorem dX2_standsAt_4 : decode cX2_standsAt 4 = .ok (.getfield 39, 3) := dd_get dm_X2_standsAt_0 4 rfl
theorem dX2_standsAt_7 : decode cX2_standsAt 7 = .ok (.if_icmp .ge 21, 3) := dd_get dm_X2_standsAt_0 5 rfl
theorem dX2_standsAt_10 : decode cX2_standsAt 10 = .ok (.aload_n 0, 1) := dd_get dm_X2_standsAt_0 6 rfl
theorem dX2_standsAt_11 : decode cX2_standsAt 11 = .ok (.getfield 9, 3) := dd_get dm_X2_standsAt_0 7 rfl
theorem dX2_standsAt_14 : decode cX2_standsAt 14 = .ok (.iload_n 2, 1) := dd_get dm_X2_standsAt_0 8 rfl
theorem dX2_standsAt_15 : decode cX2_standsAt 15 = .ok (.iaload, 1) := dd_get dm_X2_standsAt_0 9 rfl
theorem dX2_standsAt_16 : decode cX2_standsAt 16 = .ok (.iload_n 1, 1) := dd_get dm_X2_standsAt_0 10 rfl
theorem dX2_standsAt_17 : decode cX2_standsAt 17 = .ok (.if_icmp .ne 5, 3) := dd_get dm_X2_standsAt_0 11 rfl
theorem dX2_standsAt_20 : decode cX2_standsAt 20 = .ok (.iconst 1, 1) := dd_get dm_X2_standsAt_0 12 rfl
theorem dX2_standsAt_21 : decode cX2_standsAt 21 = .ok (.ireturn, 1) := dd_get dm_X2_standsAt_0 13 rfl
theorem dX2_standsAt_22 : decode cX2_standsAt 22 = .ok (.iinc 2 1, 3) := dd_get dm_X2_standsAt_0 14 rfl
theorem dX2_standsAt_25 : decode cX2_standsAt 25 = .ok (.goto (-23), 3) := dd_get dm_X2_standsAt_0 15 rfl
theorem dX2_standsAt_28 : decode cX2_standsAt 28 = .ok (.iconst 0, 1) := dd_get dm_X2_standsAt_0 16 rfl
theorem dX2_standsAt_29 : decode cX2_standsAt 29 = .ok (.ireturn, 1) := dd_get dm_X2_standsAt_0 17 rfl
theorem dm_X2_raise_0 : (([(0, .aload_n 0, 1), (1, .getfield 39, 3), (4, .istore 4, 2), (6, .aload_n 0, 1), (7, .getfield 9, 3), (10, .iload 4, 2), (12, .iload_n 1, 1), (13, .iastore, 1), (14, .aload_n 0, 1), (15, .getfield 15, 3), (18, .iload 4, 2), (20, .iload_n 2, 1), (21, .iastore, 1), (22, .aload_n 0, 1), (23, .getfield 18, 3), (26, .iload 4, 2), (28, .iload_n 3, 1), (29, .iastore, 1), (30, .aload_n 0, 1), (31, .dup, 1), (32, .getfield 35, 3), (35, .iconst 1, 1), (36, .iload 4, 2), (38, .ishl, 1), (39, .ior, 1), (40, .putfield 35, 3), (43, .aload_n 0, 1), (44, .dup, 1), (45, .getfield 39, 3), (48, .iconst 1, 1), (49, .iadd, 1), (50, .putfield 39, 3), (53, .iload 4, 2), (55, .ireturn, 1)] : List (Nat × Instr × Nat)).all fun q => decide (decode cX2_raise q.1 = .ok (q.2.1, q.2.2))) = true := by decide +kernel
theorem dX2_raise_0 : decode cX2_raise 0 = .ok (.aload_n 0, 1) := dd_get dm_X2_raise_0 0 rfl
theorem dX2_raise_1 : decode cX2_raise 1 = .ok (.getfield 39, 3) := dd_get dm_X2_raise_0 1 rfl
theorem dX2_raise_4 : decode cX2_raise 4 = .ok (.istore 4, 2) := dd_get dm_X2_raise_0 2 rfl
theorem dX2_raise_6 : decode cX2_raise 6 = .ok (.aload_n 0, 1) := dd_get dm_X2_raise_0 3 rfl
theorem dX2_raise_7 : decode cX2_raise 7 = .ok (.getfield 9, 3) := dd_get dm_X2_raise_0 4 rfl
theorem dX2_raise_10 : decode cX2_raise 10 = .ok (.iload 4, 2) := dd_get dm_X2_raise_0 5 rfl
theorem dX2_raise_12 : decode cX2_raise 12 = .ok (.iload_n 1, 1) := dd_get dm_X2_raise_0 6 rfl
theorem dX2_raise_13 : decode cX2_raise 13 = .ok (.iastore, 1) := dd_get dm_X2_raise_0 7 rfl
theorem dX2_raise_14 : decode cX2_raise 14 = .ok (.aload_n 0, 1) := dd_get dm_X2_raise_0 8 rfl
theorem dX2_raise_15 : decode cX2_raise 15 = .ok (.getfield 15, 3) := dd_get dm_X2_raise_0 9 rfl
theorem dX2_raise_18 : decode cX2_raise 18 = .ok (.iload 4, 2) := dd_get dm_X2_raise_0 10 rfl
theorem dX2_raise_20 : decode cX2_raise 20 = .ok (.iload_n 2, 1) := dd_get dm_X2_raise_0 11 rfl
theorem dX2_raise_21 : decode cX2_raise 21 = .ok (.iastore, 1) := dd_get dm_X2_raise_0 12 rfl
theorem dX2_raise_22 : decode cX2_raise 22 = .ok (.aload_n 0, 1) := dd_get dm_X2_raise_0 13 rfl
theorem dX2_raise_23 : decode cX2_raise 23 = .ok (.getfield 18, 3) := dd_get dm_X2_raise_0 14 rfl
theorem dX2_raise_26 : decode cX2_raise 26 = .ok (.iload 4, 2) := dd_get dm_X2_raise_0 15 rfl
theorem dX2_raise_28 : decode cX2_raise 28 = .ok (.iload_n 3, 1) := dd_get dm_X2_raise_0 16 rfl
theorem dX2_raise_29 : decode cX2_raise 29 = .ok (.iastore, 1) := dd_get dm_X2_raise_0 17 rfl
theorem dX2_raise_30 : decode cX2_raise 30 = .ok (.aload_n 0, 1) := dd_get dm_X2_raise_0 18 rfl
theorem dX2_raise_31 : decode cX2_raise 31 = .ok (.dup, 1) := dd_get dm_X2_raise_0 19 rfl
theorem dX2_raise_32 : decode cX2_raise 32 = .ok (.getfield 35, 3) := dd_get dm_X2_raise_0 20 rfl
theorem dX2_raise_35 : decode cX2_raise 35 = .ok (.iconst 1, 1) := dd_get dm_X2_raise_0 21 rfl
theorem dX2_raise_36 : decode cX2_raise 36 = .ok (.iload 4, 2) := dd_get dm_X2_raise_0 22 rfl
theorem dX2_raise_38 : decode cX2_raise 38 = .ok (.ishl, 1) := dd_get dm_X2_raise_0 23 rfl
theorem dX2_raise_39 : decode cX2_raise 39 = .ok (.ior, 1) := dd_get dm_X2_raise_0 24 rfl
theorem dX2_raise_40 : decode cX2_raise 40 = .ok (.putfield 35, 3) := dd_get dm_X2_raise_0 25 rfl
theorem dX2_raise_43 : decode cX2_raise 43 = .ok (.aload_n 0, 1) := dd_get dm_X2_raise_0 26 rfl
theorem dX2_raise_44 : decode cX2_raise 44 = .ok (.dup, 1) := dd_get dm_X2_raise_0 27 rfl
theorem dX2_raise_45 : decode cX2_raise 45 = .ok (.getfield 39, 3) := dd_get dm_X2_raise_0 28 rfl
theorem dX2_raise_48 : decode cX2_raise 48 = .ok (.iconst 1, 1) := dd_get dm_X2_raise_0 29 rfl
theorem dX2_raise_49 : decode cX2_raise 49 = .ok (.iadd, 1) := dd_get dm_X2_raise_0 30 rfl
theorem dX2_raise_50 : decode cX2_raise 50 = .ok (.putfield 39, 3) := dd_get dm_X2_raise_0 31 rfl
theorem dX2_raise_53 : decode cX2_raise 53 = .ok (.iload 4, 2) := dd_get dm_X2_raise_0 32 rfl
theorem dX2_raise_55 : decode cX2_raise 55 = .ok (.ireturn, 1) := dd_get dm_X2_raise_0 33 rfl
theorem dm_X2_flip_0 : (([(0, .aload_n 0, 1), (1, .dup, 1), (2, .getfield 35, 3), (5, .iconst 1, 1), (6, .iload_n 1, 1), (7, .ishl, 1), (8, .ixor, 1), (9, .putfield 35, 3), (12, .return_, 1)] : List (Nat × Instr × Nat)).all fun q => decide (decode cX2_flip q.1 = .ok (q.2.1, q.2.2))) = true := by decide +kernel
theorem dX2_flip_0 : decode cX2_flip 0 = .ok (.aload_n 0, 1) := dd_get dm_X2_flip_0 0 rfl
theorem dX2_flip_1 : decode cX2_flip 1 = .ok (.dup, 1) := dd_get dm_X2_flip_0 1 rfl
theorem dX2_flip_2 : decode cX2_flip 2 = .ok (.getfield 35, 3) := dd_get dm_X2_flip_0 2 rfl
theorem dX2_flip_5 : decode cX2_flip 5 = .ok (.iconst 1, 1) := dd_get dm_X2_flip_0 3 rfl
theorem dX2_flip_6 : decode cX2_flip 6 = .ok (.iload_n 1, 1) := dd_get dm_X2_flip_0 4 rfl
theorem dX2_flip_7 : decode cX2_flip 7 = .ok (.ishl, 1) := dd_get dm_X2_flip_0 5 rfl
theorem dX2_flip_8 : decode cX2_flip 8 = .ok (.ixor, 1) := dd_get dm_X2_flip_0 6 rfl
theorem dX2_flip_9 : decode cX2_flip 9 = .ok (.putfield 35, 3) := dd_get dm_X2_flip_0 7 rfl
theorem dX2_flip_12 : decode cX2_flip 12 = .ok (.return_, 1) := dd_get dm_X2_flip_0 8 rfl
theorem dm_X2_survey_0 : (([(0, .aload_n 0, 1), (1, .getfield 42, 3), (4, .ifCond .eq 4, 3), (7, .return_, 1), (8, .iconst 0, 1), (9, .istore_n 1, 1), (10, .iload_n 1, 1), (11, .aload_n 0, 1), (12, .getfield 39, 3), (15, .if_icmp .ge 55, 3), (18, .aload_n 0, 1), (19, .getfield 46, 3), (22, .aload_n 0, 1), (23, .getfield 9, 3), (26, .iload_n 1, 1), (27, .iaload, 1), (28, .invokevirtual 67, 3), (31, .astore_n 2, 1), (32, .iconst 0, 1), (33, .istore_n 3, 1), (34, .iload_n 3, 1), (35, .aload_n 0, 1), (36, .getfield 39, 3), (39, .if_icmp .ge 25, 3), (42, .aload_n 0, 1), (43, .getfield 32, 3), (46, .iload_n 1, 1), (47, .aaload, 1), (48, .iload_n 3, 1), (49, .aload_n 2, 1), (50, .aload_n 0, 1), (51, .getfield 9, 3), (54, .iload_n 3, 1), (55, .iaload, 1), (56, .iaload, 1), (57, .iastore, 1), (58, .iinc 3 1, 3), (61, .goto (-27), 3), (64, .iinc 1 1, 3), (67, .goto (-57), 3), (70, .aload_n 0, 1), (71, .getfield 27, 3), (74, .iconst 0, 1), (75, .invokestatic 73, 3), (78, .iconst 0, 1), (79, .istore_n 1, 1), (80, .iload_n 1, 1), (81, .aload_n 0, 1), (82, .getfield 39, 3), (85, .if_icmp .ge 31, 3), (88, .aload_n 0, 1), (89, .getfield 24, 3), (92, .iload_n 1, 1), (93, .aload_n 0, 1), (94, .iload_n 1, 1), (95, .invokevirtual 79, 3), (98, .iastore, 1), (99, .aload_n 0, 1), (100, .iload_n 1, 1), (101, .aload_n 0, 1)] : List (Nat × Instr × Nat)).all fun q => decide (decode cX2_survey q.1 = .ok (q.2.1, q.2.2))) = true := by decide +kernel
theorem dX2_survey_0 : decode cX2_survey 0 = .ok (.aload_n 0, 1) := dd_get dm_X2_survey_0 0 rfl
theorem dX2_survey_1 : decode cX2_survey 1 = .ok (.getfield 42, 3) := dd_get dm_X2_survey_0 1 rfl
theorem dX2_survey_4 : decode cX2_survey 4 = .ok (.ifCond .eq 4, 3) := dd_get dm_X2_survey_0 2 rfl
theorem dX2_survey_7 : decode cX2_survey 7 = .ok (.return_, 1) := dd_get dm_X2_survey_0 3 rfl
theorem dX2_survey_8 : decode cX2_survey 8 = .ok (.iconst 0, 1) := dd_get dm_X2_survey_0 4 rfl
theorem dX2_survey_9 : decode cX2_survey 9 = .ok (.istore_n 1, 1) := dd_get dm_X2_survey_0 5 rfl
theorem dX2_survey_10 : decode cX2_survey 10 = .ok (.iload_n 1, 1) := dd_get dm_X2_survey_0 6 rfl
theorem dX2_survey_11 : decode cX2_survey 11 = .ok (.aload_n 0, 1) := dd_get dm_X2_survey_0 7 rfl
theorem dX2_survey_12 : decode cX2_survey 12 = .ok (.getfield 39, 3) := dd_get dm_X2_survey_0 8 rfl
theorem dX2_survey_15 : decode cX2_survey 15 = .ok (.if_icmp .ge 55, 3) := dd_get dm_X2_survey_0 9 rfl
theorem dX2_survey_18 : decode cX2_survey 18 = .ok (.aload_n 0, 1) := dd_get dm_X2_survey_0 10 rfl
theorem dX2_survey_19 : decode cX2_survey 19 = .ok (.getfield 46, 3) := dd_get dm_X2_survey_0 11 rfl
theorem dX2_survey_22 : decode cX2_survey 22 = .ok (.aload_n 0, 1) := dd_get dm_X2_survey_0 12 rfl
theorem dX2_survey_23 : decode cX2_survey 23 = .ok (.getfield 9, 3) := dd_get dm_X2_survey_0 13 rfl
theorem dX2_survey_26 : decode cX2_survey 26 = .ok (.iload_n 1, 1) := dd_get dm_X2_survey_0 14 rfl
theorem dX2_survey_27 : decode cX2_survey 27 = .ok (.iaload, 1) := dd_get dm_X2_survey_0 15 rfl
theorem dX2_survey_28 : decode cX2_survey 28 = .ok (.invokevirtual 67, 3) := dd_get dm_X2_survey_0 16 rfl
theorem dX2_survey_31 : decode cX2_survey 31 = .ok (.astore_n 2, 1) := dd_get dm_X2_survey_0 17 rfl
theorem dX2_survey_32 : decode cX2_survey 32 = .ok (.iconst 0, 1) := dd_get dm_X2_survey_0 18 rfl
theorem dX2_survey_33 : decode cX2_survey 33 = .ok (.istore_n 3, 1) := dd_get dm_X2_survey_0 19 rfl
theorem dX2_survey_34 : decode cX2_survey 34 = .ok (.iload_n 3, 1) := dd_get dm_X2_survey_0 20 rfl
theorem dX2_survey_35 : decode cX2_survey 35 = .ok (.aload_n 0, 1) := dd_get dm_X2_survey_0 21 rfl
theorem dX2_survey_36 : decode cX2_survey 36 = .ok (.getfield 39, 3) := dd_get dm_X2_survey_0 22 rfl
theorem dX2_survey_39 : decode cX2_survey 39 = .ok (.if_icmp .ge 25, 3) := dd_get dm_X2_survey_0 23 rfl
theorem dX2_survey_42 : decode cX2_survey 42 = .ok (.aload_n 0, 1) := dd_get dm_X2_survey_0 24 rfl
theorem dX2_survey_43 : decode cX2_survey 43 = .ok (.getfield 32, 3) := dd_get dm_X2_survey_0 25 rfl
theorem dX2_survey_46 : decode cX2_survey 46 = .ok (.iload_n 1, 1) := dd_get dm_X2_survey_0 26 rfl
theorem dX2_survey_47 : decode cX2_survey 47 = .ok (.aaload, 1) := dd_get dm_X2_survey_0 27 rfl
theorem dX2_survey_48 : decode cX2_survey 48 = .ok (.iload_n 3, 1) := dd_get dm_X2_survey_0 28 rfl
theorem dX2_survey_49 : decode cX2_survey 49 = .ok (.aload_n 2, 1) := dd_get dm_X2_survey_0 29 rfl
theorem dX2_survey_50 : decode cX2_survey 50 = .ok (.aload_n 0, 1) := dd_get dm_X2_survey_0 30 rfl
theorem dX2_survey_51 : decode cX2_survey 51 = .ok (.getfield 9, 3) := dd_get dm_X2_survey_0 31 rfl
theorem dX2_survey_54 : decode cX2_survey 54 = .ok (.iload_n 3, 1) := dd_get dm_X2_survey_0 32 rfl
theorem dX2_survey_55 : decode cX2_survey 55 = .ok (.iaload, 1) := dd_get dm_X2_survey_0 33 rfl
theorem dX2_survey_56 : decode cX2_survey 56 = .ok (.iaload, 1) := dd_get dm_X2_survey_0 34 rfl
theorem dX2_survey_57 : decode cX2_survey 57 = .ok (.iastore, 1) := dd_get dm_X2_survey_0 35 rfl
theorem dX2_survey_58 : decode cX2_survey 58 = .ok (.iinc 3 1, 3) := dd_get dm_X2_survey_0 36 rfl
theorem dX2_survey_61 : decode cX2_survey 61 = .ok (.goto (-27), 3) := dd_get dm_X2_survey_0 37 rfl
theorem dX2_survey_64 : decode cX2_survey 64 = .ok (.iinc 1 1, 3) := dd_get dm_X2_survey_0 38 rfl
theorem dX2_survey_67 : decode cX2_survey 67 = .ok (.goto (-57), 3) := dd_get dm_X2_survey_0 39 rfl
theorem dX2_survey_70 : decode cX2_survey 70 = .ok (.aload_n 0, 1) := dd_get dm_X2_survey_0 40 rfl
theorem dX2_survey_71 : decode cX2_survey 71 = .ok (.getfield 27, 3) := dd_get dm_X2_survey_0 41 rfl
theorem dX2_survey_74 : decode cX2_survey 74 = .ok (.iconst 0, 1) := dd_get dm_X2_survey_0 42 rfl
theorem dX2_survey_75 : decode cX2_survey 75 = .ok (.invokestatic 73, 3) := dd_get dm_X2_survey_0 43 rfl
theorem dX2_survey_78 : decode cX2_survey 78 = .ok (.iconst 0, 1) := dd_get dm_X2_survey_0 44 rfl
theorem dX2_survey_79 : decode cX2_survey 79 = .ok (.istore_n 1, 1) := dd_get dm_X2_survey_0 45 rfl
theorem dX2_survey_80 : decode cX2_survey 80 = .ok (.iload_n 1, 1) := dd_get dm_X2_survey_0 46 rfl
theorem dX2_survey_81 : decode cX2_survey 81 = .ok (.aload_n 0, 1) := dd_get dm_X2_survey_0 47 rfl
theorem dX2_survey_82 : decode cX2_survey 82 = .ok (.getfield 39, 3) := dd_get dm_X2_survey_0 48 rfl
theorem dX2_survey_85 : decode cX2_survey 85 = .ok (.if_icmp .ge 31, 3) := dd_get dm_X2_survey_0 49 rfl
theorem dX2_survey_88 : decode cX2_survey 88 = .ok (.aload_n 0, 1) := dd_get dm_X2_survey_0 50 rfl
theorem dX2_survey_89 : decode cX2_survey 89 = .ok (.getfield 24, 3) := dd_get dm_X2_survey_0 51 rfl
theorem dX2_survey_92 : decode cX2_survey 92 = .ok (.iload_n 1, 1) := dd_get dm_X2_survey_0 52 rfl
theorem dX2_survey_93 : decode cX2_survey 93 = .ok (.aload_n 0, 1) := dd_get dm_X2_survey_0 53 rfl
theorem dX2_survey_94 : decode cX2_survey 94 = .ok (.iload_n 1, 1) := dd_get dm_X2_survey_0 54 rfl
theorem dX2_survey_95 : decode cX2_survey 95 = .ok (.invokevirtual 79, 3) := dd_get dm_X2_survey_0 55 rfl
theorem dX2_survey_98 : decode cX2_survey 98 = .ok (.iastore, 1) := dd_get dm_X2_survey_0 56 rfl
theorem dX2_survey_99 : decode cX2_survey 99 = .ok (.aload_n 0, 1) := dd_get dm_X2_survey_0 57 rfl
theorem dX2_survey_100 : decode cX2_survey 100 = .ok (.iload_n 1, 1) := dd_get dm_X2_survey_0 58 rfl
theorem dX2_survey_101 : decode cX2_survey 101 = .ok (.aload_n 0, 1) := dd_get dm_X2_survey_0 59 rfl
theorem dm_X2_survey_1 : (([(102, .getfield 24, 3), (105, .iload_n 1, 1), (106, .iaload, 1), (107, .invokevirtual 82, 3), (110, .iinc 1 1, 3), (113, .goto (-33), 3), (116, .aload_n 0, 1), (117, .iconst 1, 1), (118, .putfield 42, 3), (121, .return_, 1)] : List (Nat × Instr × Nat)).all fun q => decide (decode cX2_survey q.1 = .ok (q.2.1, q.2.2))) = true := by decide +kernel
theorem dX2_survey_102 : decode cX2_survey 102 = .ok (.getfield 24, 3) := dd_get dm_X2_survey_1 0 rfl
theorem dX2_survey_105 : decode cX2_survey 105 = .ok (.iload_n 1, 1) := dd_get dm_X2_survey_1 1 rfl
theorem dX2_survey_106 : decode cX2_survey 106 = .ok (.iaload, 1) := dd_get dm_X2_survey_1 2 rfl
theorem dX2_survey_107 : decode cX2_survey 107 = .ok (.invokevirtual 82, 3) := dd_get dm_X2_survey_1 3 rfl
theorem dX2_survey_110 : decode cX2_survey 110 = .ok (.iinc 1 1, 3) := dd_get dm_X2_survey_1 4 rfl
theorem dX2_survey_113 : decode cX2_survey 113 = .ok (.goto (-33), 3) := dd_get dm_X2_survey_1 5 rfl
theorem dX2_survey_116 : decode cX2_survey 116 = .ok (.aload_n 0, 1) := dd_get dm_X2_survey_1 6 rfl
theorem dX2_survey_117 : decode cX2_survey 117 = .ok (.iconst 1, 1) := dd_get dm_X2_survey_1 7 rfl
theorem dX2_survey_118 : decode cX2_survey 118 = .ok (.putfield 42, 3) := dd_get dm_X2_survey_1 8 rfl
theorem dX2_survey_121 : decode cX2_survey 121 = .ok (.return_, 1) := dd_get dm_X2_survey_1 9 rfl
theorem dm_X2_twinOf_0 : (([(0, .aload_n 0, 1), (1, .getfield 15, 3), (4, .iload_n 1, 1), (5, .iaload, 1), (6, .iconst 1, 1), (7, .if_icmp .ne 10, 3), (10, .aload_n 0, 1), (11, .getfield 18, 3), (14, .iload_n 1, 1), (15, .iaload, 1), (16, .ireturn, 1), (17, .aload_n 0, 1), (18, .getfield 15, 3), (21, .iload_n 1, 1), (22, .iaload, 1), (23, .iconst 2, 1), (24, .if_icmp .ne 11, 3), (27, .aload_n 0, 1), (28, .iload_n 1, 1), (29, .invokevirtual 86, 3), (32, .goto 4, 3), (35, .iconst (-1), 1), (36, .ireturn, 1)] : List (Nat × Instr × Nat)).all fun q => decide (decode cX2_twinOf q.1 = .ok (q.2.1, q.2.2))) = true := by decide +kernel
theorem dX2_twinOf_0 : decode cX2_twinOf 0 = .ok (.aload_n 0, 1) := dd_get dm_X2_twinOf_0 0 rfl
theorem dX2_twinOf_1 : decode cX2_twinOf 1 = .ok (.getfield 15, 3) := dd_get dm_X2_twinOf_0 1 rfl
theorem dX2_twinOf_4 : decode cX2_twinOf 4 = .ok (.iload_n 1, 1) := dd_get dm_X2_twinOf_0 2 rfl
theorem dX2_twinOf_5 : decode cX2_twinOf 5 = .ok (.iaload, 1) := dd_get dm_X2_twinOf_0 3 rfl
theorem dX2_twinOf_6 : decode cX2_twinOf 6 = .ok (.iconst 1, 1) := dd_get dm_X2_twinOf_0 4 rfl
theorem dX2_twinOf_7 : decode cX2_twinOf 7 = .ok (.if_icmp .ne 10, 3) := dd_get dm_X2_twinOf_0 5 rfl
theorem dX2_twinOf_10 : decode cX2_twinOf 10 = .ok (.aload_n 0, 1) := dd_get dm_X2_twinOf_0 6 rfl
theorem dX2_twinOf_11 : decode cX2_twinOf 11 = .ok (.getfield 18, 3) := dd_get dm_X2_twinOf_0 7 rfl
theorem dX2_twinOf_14 : decode cX2_twinOf 14 = .ok (.iload_n 1, 1) := dd_get dm_X2_twinOf_0 8 rfl
theorem dX2_twinOf_15 : decode cX2_twinOf 15 = .ok (.iaload, 1) := dd_get dm_X2_twinOf_0 9 rfl
theorem dX2_twinOf_16 : decode cX2_twinOf 16 = .ok (.ireturn, 1) := dd_get dm_X2_twinOf_0 10 rfl
theorem dX2_twinOf_17 : decode cX2_twinOf 17 = .ok (.aload_n 0, 1) := dd_get dm_X2_twinOf_0 11 rfl
theorem dX2_twinOf_18 : decode cX2_twinOf 18 = .ok (.getfield 15, 3) := dd_get dm_X2_twinOf_0 12 rfl
theorem dX2_twinOf_21 : decode cX2_twinOf 21 = .ok (.iload_n 1, 1) := dd_get dm_X2_twinOf_0 13 rfl
theorem dX2_twinOf_22 : decode cX2_twinOf 22 = .ok (.iaload, 1) := dd_get dm_X2_twinOf_0 14 rfl
theorem dX2_twinOf_23 : decode cX2_twinOf 23 = .ok (.iconst 2, 1) := dd_get dm_X2_twinOf_0 15 rfl
theorem dX2_twinOf_24 : decode cX2_twinOf 24 = .ok (.if_icmp .ne 11, 3) := dd_get dm_X2_twinOf_0 16 rfl
theorem dX2_twinOf_27 : decode cX2_twinOf 27 = .ok (.aload_n 0, 1) := dd_get dm_X2_twinOf_0 17 rfl
theorem dX2_twinOf_28 : decode cX2_twinOf 28 = .ok (.iload_n 1, 1) := dd_get dm_X2_twinOf_0 18 rfl
theorem dX2_twinOf_29 : decode cX2_twinOf 29 = .ok (.invokevirtual 86, 3) := dd_get dm_X2_twinOf_0 19 rfl
theorem dX2_twinOf_32 : decode cX2_twinOf 32 = .ok (.goto 4, 3) := dd_get dm_X2_twinOf_0 20 rfl
theorem dX2_twinOf_35 : decode cX2_twinOf 35 = .ok (.iconst (-1), 1) := dd_get dm_X2_twinOf_0 21 rfl
theorem dX2_twinOf_36 : decode cX2_twinOf 36 = .ok (.ireturn, 1) := dd_get dm_X2_twinOf_0 22 rfl
theorem dm_X2_nearest_0 : (([(0, .iconst (-1), 1), (1, .istore_n 2, 1), (2, .ldc 89, 2), (4, .istore_n 3, 1), (5, .iconst 0, 1), (6, .istore 4, 2), (8, .iload 4, 2), (10, .aload_n 0, 1), (11, .getfield 39, 3), (14, .if_icmp .ge 41, 3), (17, .iload 4, 2), (19, .iload_n 1, 1), (20, .if_icmp .eq 29, 3), (23, .aload_n 0, 1), (24, .getfield 32, 3), (27, .iload_n 1, 1), (28, .aaload, 1), (29, .iload 4, 2), (31, .iaload, 1), (32, .iload_n 3, 1), (33, .if_icmp .ge 16, 3), (36, .iload 4, 2), (38, .istore_n 2, 1), (39, .aload_n 0, 1), (40, .getfield 32, 3), (43, .iload_n 1, 1), (44, .aaload, 1), (45, .iload 4, 2), (47, .iaload, 1), (48, .istore_n 3, 1), (49, .iinc 4 1, 3), (52, .goto (-44), 3), (55, .iload_n 2, 1), (56, .ireturn, 1)] : List (Nat × Instr × Nat)).all fun q => decide (decode cX2_nearest q.1 = .ok (q.2.1, q.2.2))) = true := by decide +kernel
theorem dX2_nearest_0 : decode cX2_nearest 0 = .ok (.iconst (-1), 1) := dd_get dm_X2_nearest_0 0 rfl
theorem dX2_nearest_1 : decode cX2_nearest 1 = .ok (.istore_n 2, 1) := dd_get dm_X2_nearest_0 1 rfl
theorem dX2_nearest_2 : decode cX2_nearest 2 = .ok (.ldc 89, 2) := dd_get dm_X2_nearest_0 2 rfl
theorem dX2_nearest_4 : decode cX2_nearest 4 = .ok (.istore_n 3, 1) := dd_get dm_X2_nearest_0 3 rfl
theorem dX2_nearest_5 : decode cX2_nearest 5 = .ok (.iconst 0, 1) := dd_get dm_X2_nearest_0 4 rfl
theorem dX2_nearest_6 : decode cX2_nearest 6 = .ok (.istore 4, 2) := dd_get dm_X2_nearest_0 5 rfl
theorem dX2_nearest_8 : decode cX2_nearest 8 = .ok (.iload 4, 2) := dd_get dm_X2_nearest_0 6 rfl
theorem dX2_nearest_10 : decode cX2_nearest 10 = .ok (.aload_n 0, 1) := dd_get dm_X2_nearest_0 7 rfl
theorem dX2_nearest_11 : decode cX2_nearest 11 = .ok (.getfield 39, 3) := dd_get dm_X2_nearest_0 8 rfl
theorem dX2_nearest_14 : decode cX2_nearest 14 = .ok (.if_icmp .ge 41, 3) := dd_get dm_X2_nearest_0 9 rfl
theorem dX2_nearest_17 : decode cX2_nearest 17 = .ok (.iload 4, 2) := dd_get dm_X2_nearest_0 10 rfl
theorem dX2_nearest_19 : decode cX2_nearest 19 = .ok (.iload_n 1, 1) := dd_get dm_X2_nearest_0 11 rfl
theorem dX2_nearest_20 : decode cX2_nearest 20 = .ok (.if_icmp .eq 29, 3) := dd_get dm_X2_nearest_0 12 rfl
theorem dX2_nearest_23 : decode cX2_nearest 23 = .ok (.aload_n 0, 1) := dd_get dm_X2_nearest_0 13 rfl
theorem dX2_nearest_24 : decode cX2_nearest 24 = .ok (.getfield 32, 3) := dd_get dm_X2_nearest_0 14 rfl
theorem dX2_nearest_27 : decode cX2_nearest 27 = .ok (.iload_n 1, 1) := dd_get dm_X2_nearest_0 15 rfl
theorem dX2_nearest_28 : decode cX2_nearest 28 = .ok (.aaload, 1) := dd_get dm_X2_nearest_0 16 rfl
theorem dX2_nearest_29 : decode cX2_nearest 29 = .ok (.iload 4, 2) := dd_get dm_X2_nearest_0 17 rfl
theorem dX2_nearest_31 : decode cX2_nearest 31 = .ok (.iaload, 1) := dd_get dm_X2_nearest_0 18 rfl
theorem dX2_nearest_32 : decode cX2_nearest 32 = .ok (.iload_n 3, 1) := dd_get dm_X2_nearest_0 19 rfl
theorem dX2_nearest_33 : decode cX2_nearest 33 = .ok (.if_icmp .ge 16, 3) := dd_get dm_X2_nearest_0 20 rfl
theorem dX2_nearest_36 : decode cX2_nearest 36 = .ok (.iload 4, 2) := dd_get dm_X2_nearest_0 21 rfl
theorem dX2_nearest_38 : decode cX2_nearest 38 = .ok (.istore_n 2, 1) := dd_get dm_X2_nearest_0 22 rfl
theorem dX2_nearest_39 : decode cX2_nearest 39 = .ok (.aload_n 0, 1) := dd_get dm_X2_nearest_0 23 rfl
theorem dX2_nearest_40 : decode cX2_nearest 40 = .ok (.getfield 32, 3) := dd_get dm_X2_nearest_0 24 rfl
theorem dX2_nearest_43 : decode cX2_nearest 43 = .ok (.iload_n 1, 1) := dd_get dm_X2_nearest_0 25 rfl
theorem dX2_nearest_44 : decode cX2_nearest 44 = .ok (.aaload, 1) := dd_get dm_X2_nearest_0 26 rfl
theorem dX2_nearest_45 : decode cX2_nearest 45 = .ok (.iload 4, 2) := dd_get dm_X2_nearest_0 27 rfl
theorem dX2_nearest_47 : decode cX2_nearest 47 = .ok (.iaload, 1) := dd_get dm_X2_nearest_0 28 rfl
theorem dX2_nearest_48 : decode cX2_nearest 48 = .ok (.istore_n 3, 1) := dd_get dm_X2_nearest_0 29 rfl
theorem dX2_nearest_49 : decode cX2_nearest 49 = .ok (.iinc 4 1, 3) := dd_get dm_X2_nearest_0 30 rfl
theorem dX2_nearest_52 : decode cX2_nearest 52 = .ok (.goto (-44), 3) := dd_get dm_X2_nearest_0 31 rfl
theorem dX2_nearest_55 : decode cX2_nearest 55 = .ok (.iload_n 2, 1) := dd_get dm_X2_nearest_0 32 rfl
theorem dX2_nearest_56 : decode cX2_nearest 56 = .ok (.ireturn, 1) := dd_get dm_X2_nearest_0 33 rfl
theorem dm_X2_tieTwins_0 : (([(0, .aload_n 0, 1), (1, .iload_n 1, 1), (2, .invokevirtual 90, 3), (5, .ifCond .eq 35, 3), (8, .aload_n 0, 1), (9, .iload_n 2, 1), (10, .invokevirtual 90, 3), (13, .ifCond .eq 27, 3), (16, .aload_n 0, 1), (17, .getfield 27, 3), (20, .iload_n 1, 1), (21, .dup2, 1), (22, .iaload, 1), (23, .iconst 1, 1), (24, .iload_n 2, 1), (25, .ishl, 1), (26, .ior, 1), (27, .iastore, 1), (28, .aload_n 0, 1), (29, .getfield 27, 3), (32, .iload_n 2, 1), (33, .dup2, 1), (34, .iaload, 1), (35, .iconst 1, 1), (36, .iload_n 1, 1), (37, .ishl, 1), (38, .ior, 1), (39, .iastore, 1), (40, .return_, 1)] : List (Nat × Instr × Nat)).all fun q => decide (decode cX2_tieTwins q.1 = .ok (q.2.1, q.2.2))) = true := by decide +kernel
theorem dX2_tieTwins_0 : decode cX2_tieTwins 0 = .ok (.aload_n 0, 1) := dd_get dm_X2_tieTwins_0 0 rfl
theorem dX2_tieTwins_1 : decode cX2_tieTwins 1 = .ok (.iload_n 1, 1) := dd_get dm_X2_tieTwins_0 1 rfl
theorem dX2_tieTwins_2 : decode cX2_tieTwins 2 = .ok (.invokevirtual 90, 3) := dd_get dm_X2_tieTwins_0 2 rfl
theorem dX2_tieTwins_5 : decode cX2_tieTwins 5 = .ok (.ifCond .eq 35, 3) := dd_get dm_X2_tieTwins_0 3 rfl
theorem dX2_tieTwins_8 : decode cX2_tieTwins 8 = .ok (.aload_n 0, 1) := dd_get dm_X2_tieTwins_0 4 rfl
theorem dX2_tieTwins_9 : decode cX2_tieTwins 9 = .ok (.iload_n 2, 1) := dd_get dm_X2_tieTwins_0 5 rfl
theorem dX2_tieTwins_10 : decode cX2_tieTwins 10 = .ok (.invokevirtual 90, 3) := dd_get dm_X2_tieTwins_0 6 rfl
theorem dX2_tieTwins_13 : decode cX2_tieTwins 13 = .ok (.ifCond .eq 27, 3) := dd_get dm_X2_tieTwins_0 7 rfl
theorem dX2_tieTwins_16 : decode cX2_tieTwins 16 = .ok (.aload_n 0, 1) := dd_get dm_X2_tieTwins_0 8 rfl
theorem dX2_tieTwins_17 : decode cX2_tieTwins 17 = .ok (.getfield 27, 3) := dd_get dm_X2_tieTwins_0 9 rfl
theorem dX2_tieTwins_20 : decode cX2_tieTwins 20 = .ok (.iload_n 1, 1) := dd_get dm_X2_tieTwins_0 10 rfl
theorem dX2_tieTwins_21 : decode cX2_tieTwins 21 = .ok (.dup2, 1) := dd_get dm_X2_tieTwins_0 11 rfl
theorem dX2_tieTwins_22 : decode cX2_tieTwins 22 = .ok (.iaload, 1) := dd_get dm_X2_tieTwins_0 12 rfl
theorem dX2_tieTwins_23 : decode cX2_tieTwins 23 = .ok (.iconst 1, 1) := dd_get dm_X2_tieTwins_0 13 rfl
theorem dX2_tieTwins_24 : decode cX2_tieTwins 24 = .ok (.iload_n 2, 1) := dd_get dm_X2_tieTwins_0 14 rfl
theorem dX2_tieTwins_25 : decode cX2_tieTwins 25 = .ok (.ishl, 1) := dd_get dm_X2_tieTwins_0 15 rfl
theorem dX2_tieTwins_26 : decode cX2_tieTwins 26 = .ok (.ior, 1) := dd_get dm_X2_tieTwins_0 16 rfl
theorem dX2_tieTwins_27 : decode cX2_tieTwins 27 = .ok (.iastore, 1) := dd_get dm_X2_tieTwins_0 17 rfl
theorem dX2_tieTwins_28 : decode cX2_tieTwins 28 = .ok (.aload_n 0, 1) := dd_get dm_X2_tieTwins_0 18 rfl
theorem dX2_tieTwins_29 : decode cX2_tieTwins 29 = .ok (.getfield 27, 3) := dd_get dm_X2_tieTwins_0 19 rfl
theorem dX2_tieTwins_32 : decode cX2_tieTwins 32 = .ok (.iload_n 2, 1) := dd_get dm_X2_tieTwins_0 20 rfl
theorem dX2_tieTwins_33 : decode cX2_tieTwins 33 = .ok (.dup2, 1) := dd_get dm_X2_tieTwins_0 21 rfl
theorem dX2_tieTwins_34 : decode cX2_tieTwins 34 = .ok (.iaload, 1) := dd_get dm_X2_tieTwins_0 22 rfl
theorem dX2_tieTwins_35 : decode cX2_tieTwins 35 = .ok (.iconst 1, 1) := dd_get dm_X2_tieTwins_0 23 rfl
theorem dX2_tieTwins_36 : decode cX2_tieTwins 36 = .ok (.iload_n 1, 1) := dd_get dm_X2_tieTwins_0 24 rfl
theorem dX2_tieTwins_37 : decode cX2_tieTwins 37 = .ok (.ishl, 1) := dd_get dm_X2_tieTwins_0 25 rfl
theorem dX2_tieTwins_38 : decode cX2_tieTwins 38 = .ok (.ior, 1) := dd_get dm_X2_tieTwins_0 26 rfl
theorem dX2_tieTwins_39 : decode cX2_tieTwins 39 = .ok (.iastore, 1) := dd_get dm_X2_tieTwins_0 27 rfl
theorem dX2_tieTwins_40 : decode cX2_tieTwins 40 = .ok (.return_, 1) := dd_get dm_X2_tieTwins_0 28 rfl
theorem dm_X3_init_0 : (([(0, .aload_n 0, 1), (1, .invokespecial 3, 3), (4, .aload_n 0, 1), (5, .sipush 400, 3), (8, .newarray .int, 2), (10, .putfield 9, 3), (13, .aload_n 0, 1), (14, .sipush 400, 3), (17, .newarray .int, 2), (19, .putfield 15, 3), (22, .aload_n 0, 1), (23, .sipush 400, 3), (26, .newarray .int, 2), (28, .putfield 18, 3), (31, .aload_n 0, 1), (32, .iconst 0, 1), (33, .putfield 21, 3), (36, .return_, 1)] : List (Nat × Instr × Nat)).all fun q => decide (decode cX3_init q.1 = .ok (q.2.1, q.2.2))) = true := by decide +kernel
theorem dX3_init_0 : decode cX3_init 0 = .ok (.aload_n 0, 1) := dd_get dm_X3_init_0 0 rfl
theorem dX3_init_1 : decode cX3_init 1 = .ok (.invokespecial 3, 3) := dd_get dm_X3_init_0 1 rfl
theorem dX3_init_4 : decode cX3_init 4 = .ok (.aload_n 0, 1) := dd_get dm_X3_init_0 2 rfl
theorem dX3_init_5 : decode cX3_init 5 = .ok (.sipush 400, 3) := dd_get dm_X3_init_0 3 rfl
theorem dX3_init_8 : decode cX3_init 8 = .ok (.newarray .int, 2) := dd_get dm_X3_init_0 4 rfl
theorem dX3_init_10 : decode cX3_init 10 = .ok (.putfield 9, 3) := dd_get dm_X3_init_0 5 rfl
theorem dX3_init_13 : decode cX3_init 13 = .ok (.aload_n 0, 1) := dd_get dm_X3_init_0 6 rfl
theorem dX3_init_14 : decode cX3_init 14 = .ok (.sipush 400, 3) := dd_get dm_X3_init_0 7 rfl
theorem dX3_init_17 : decode cX3_init 17 = .ok (.newarray .int, 2) := dd_get dm_X3_init_0 8 rfl
theorem dX3_init_19 : decode cX3_init 19 = .ok (.putfield 15, 3) := dd_get dm_X3_init_0 9 rfl
theorem dX3_init_22 : decode cX3_init 22 = .ok (.aload_n 0, 1) := dd_get dm_X3_init_0 10 rfl
theorem dX3_init_23 : decode cX3_init 23 = .ok (.sipush 400, 3) := dd_get dm_X3_init_0 11 rfl
theorem dX3_init_26 : decode cX3_init 26 = .ok (.newarray .int, 2) := dd_get dm_X3_init_0 12 rfl
theorem dX3_init_28 : decode cX3_init 28 = .ok (.putfield 18, 3) := dd_get dm_X3_init_0 13 rfl
theorem dX3_init_31 : decode cX3_init 31 = .ok (.aload_n 0, 1) := dd_get dm_X3_init_0 14 rfl
theorem dX3_init_32 : decode cX3_init 32 = .ok (.iconst 0, 1) := dd_get dm_X3_init_0 15 rfl
theorem dX3_init_33 : decode cX3_init 33 = .ok (.putfield 21, 3) := dd_get dm_X3_init_0 16 rfl
theorem dX3_init_36 : decode cX3_init 36 = .ok (.return_, 1) := dd_get dm_X3_init_0 17 rfl
theorem dm_X3_hasLine_0 : (([(0, .iload_n 1, 1), (1, .ifCond .lt 15, 3), (4, .iload_n 1, 1), (5, .aload_n 0, 1), (6, .getfield 21, 3), (9, .if_icmp .ge 7, 3), (12, .iconst 1, 1), (13, .goto 4, 3), (16, .iconst 0, 1), (17, .ireturn, 1)] : List (Nat × Instr × Nat)).all fun q => decide (decode cX3_hasLine q.1 = .ok (q.2.1, q.2.2))) = true := by decide +kernel
theorem dX3_hasLine_0 : decode cX3_hasLine 0 = .ok (.iload_n 1, 1) := dd_get dm_X3_hasLine_0 0 rfl
theorem dX3_hasLine_1 : decode cX3_hasLine 1 = .ok (.ifCond .lt 15, 3) := dd_get dm_X3_hasLine_0 1 rfl
theorem dX3_hasLine_4 : decode cX3_hasLine 4 = .ok (.iload_n 1, 1) := dd_get dm_X3_hasLine_0 2 rfl
theorem dX3_hasLine_5 : decode cX3_hasLine 5 = .ok (.aload_n 0, 1) := dd_get dm_X3_hasLine_0 3 rfl
theorem dX3_hasLine_6 : decode cX3_hasLine 6 = .ok (.getfield 21, 3) := dd_get dm_X3_hasLine_0 4 rfl
theorem dX3_hasLine_9 : decode cX3_hasLine 9 = .ok (.if_icmp .ge 7, 3) := dd_get dm_X3_hasLine_0 5 rfl
theorem dX3_hasLine_12 : decode cX3_hasLine 12 = .ok (.iconst 1, 1) := dd_get dm_X3_hasLine_0 6 rfl
theorem dX3_hasLine_13 : decode cX3_hasLine 13 = .ok (.goto 4, 3) := dd_get dm_X3_hasLine_0 7 rfl
theorem dX3_hasLine_16 : decode cX3_hasLine 16 = .ok (.iconst 0, 1) := dd_get dm_X3_hasLine_0 8 rfl
theorem dX3_hasLine_17 : decode cX3_hasLine 17 = .ok (.ireturn, 1) := dd_get dm_X3_hasLine_0 9 rfl
theorem dm_X3_write_0 : (([(0, .aload_n 0, 1), (1, .getfield 9, 3), (4, .iload_n 1, 1), (5, .iload_n 2, 1), (6, .iastore, 1), (7, .aload_n 0, 1), (8, .getfield 15, 3), (11, .iload_n 1, 1), (12, .iload_n 3, 1), (13, .iastore, 1), (14, .aload_n 0, 1), (15, .getfield 18, 3), (18, .iload_n 1, 1), (19, .iload 4, 2), (21, .iastore, 1), (22, .return_, 1)] : List (Nat × Instr × Nat)).all fun q => decide (decode cX3_write q.1 = .ok (q.2.1, q.2.2))) = true := by decide +kernel
theorem dX3_write_0 : decode cX3_write 0 = .ok (.aload_n 0, 1) := dd_get dm_X3_write_0 0 rfl
theorem dX3_write_1 : decode cX3_write 1 = .ok (.getfield 9, 3) := dd_get dm_X3_write_0 1 rfl
theorem dX3_write_4 : decode cX3_write 4 = .ok (.iload_n 1, 1) := dd_get dm_X3_write_0 2 rfl
theorem dX3_write_5 : decode cX3_write 5 = .ok (.iload_n 2, 1) := dd_get dm_X3_write_0 3 rfl
theorem dX3_write_6 : decode cX3_write 6 = .ok (.iastore, 1) := dd_get dm_X3_write_0 4 rfl
theorem dX3_write_7 : decode cX3_write 7 = .ok (.aload_n 0, 1) := dd_get dm_X3_write_0 5 rfl
theorem dX3_write_8 : decode cX3_write 8 = .ok (.getfield 15, 3) := dd_get dm_X3_write_0 6 rfl
theorem dX3_write_11 : decode cX3_write 11 = .ok (.iload_n 1, 1) := dd_get dm_X3_write_0 7 rfl
theorem dX3_write_12 : decode cX3_write 12 = .ok (.iload_n 3, 1) := dd_get dm_X3_write_0 8 rfl
theorem dX3_write_13 : decode cX3_write 13 = .ok (.iastore, 1) := dd_get dm_X3_write_0 9 rfl
theorem dX3_write_14 : decode cX3_write 14 = .ok (.aload_n 0, 1) := dd_get dm_X3_write_0 10 rfl
theorem dX3_write_15 : decode cX3_write 15 = .ok (.getfield 18, 3) := dd_get dm_X3_write_0 11 rfl
theorem dX3_write_18 : decode cX3_write 18 = .ok (.iload_n 1, 1) := dd_get dm_X3_write_0 12 rfl
theorem dX3_write_19 : decode cX3_write 19 = .ok (.iload 4, 2) := dd_get dm_X3_write_0 13 rfl
theorem dX3_write_21 : decode cX3_write 21 = .ok (.iastore, 1) := dd_get dm_X3_write_0 14 rfl
theorem dX3_write_22 : decode cX3_write 22 = .ok (.return_, 1) := dd_get dm_X3_write_0 15 rfl
theorem dm_X3_append_0 : (([(0, .aload_n 0, 1), (1, .getfield 21, 3), (4, .sipush 400, 3), (7, .if_icmp .ge 24, 3), (10, .aload_n 0, 1), (11, .aload_n 0, 1), (12, .getfield 21, 3), (15, .iload_n 1, 1), (16, .iload_n 2, 1), (17, .iload_n 3, 1), (18, .invokevirtual 25, 3), (21, .aload_n 0, 1), (22, .dup, 1), (23, .getfield 21, 3), (26, .iconst 1, 1), (27, .iadd, 1), (28, .putfield 21, 3), (31, .return_, 1)] : List (Nat × Instr × Nat)).all fun q => decide (decode cX3_append q.1 = .ok (q.2.1, q.2.2))) = true := by decide +kernel
theorem dX3_append_0 : decode cX3_append 0 = .ok (.aload_n 0, 1) := dd_get dm_X3_append_0 0 rfl
theorem dX3_append_1 : decode cX3_append 1 = .ok (.getfield 21, 3) := dd_get dm_X3_append_0 1 rfl
theorem dX3_append_4 : decode cX3_append 4 = .ok (.sipush 400, 3) := dd_get dm_X3_append_0 2 rfl
theorem dX3_append_7 : decode cX3_append 7 = .ok (.if_icmp .ge 24, 3) := dd_get dm_X3_append_0 3 rfl
theorem dX3_append_10 : decode cX3_append 10 = .ok (.aload_n 0, 1) := dd_get dm_X3_append_0 4 rfl
theorem dX3_append_11 : decode cX3_append 11 = .ok (.aload_n 0, 1) := dd_get dm_X3_append_0 5 rfl
theorem dX3_append_12 : decode cX3_append 12 = .ok (.getfield 21, 3) := dd_get dm_X3_append_0 6 rfl
theorem dX3_append_15 : decode cX3_append 15 = .ok (.iload_n 1, 1) := dd_get dm_X3_append_0 7 rfl
theorem dX3_append_16 : decode cX3_append 16 = .ok (.iload_n 2, 1) := dd_get dm_X3_append_0 8 rfl
theorem dX3_append_17 : decode cX3_append 17 = .ok (.iload_n 3, 1) := dd_get dm_X3_append_0 9 rfl
theorem dX3_append_18 : decode cX3_append 18 = .ok (.invokevirtual 25, 3) := dd_get dm_X3_append_0 10 rfl
theorem dX3_append_21 : decode cX3_append 21 = .ok (.aload_n 0, 1) := dd_get dm_X3_append_0 11 rfl
theorem dX3_append_22 : decode cX3_append 22 = .ok (.dup, 1) := dd_get dm_X3_append_0 12 rfl
theorem dX3_append_23 : decode cX3_append 23 = .ok (.getfield 21, 3) := dd_get dm_X3_append_0 13 rfl
theorem dX3_append_26 : decode cX3_append 26 = .ok (.iconst 1, 1) := dd_get dm_X3_append_0 14 rfl
theorem dX3_append_27 : decode cX3_append 27 = .ok (.iadd, 1) := dd_get dm_X3_append_0 15 rfl
theorem dX3_append_28 : decode cX3_append 28 = .ok (.putfield 21, 3) := dd_get dm_X3_append_0 16 rfl
theorem dX3_append_31 : decode cX3_append 31 = .ok (.return_, 1) := dd_get dm_X3_append_0 17 rfl
theorem dm_X3_copyFrom_0 : (([(0, .aload_n 1, 1), (1, .getfield 9, 3), (4, .iconst 0, 1), (5, .aload_n 0, 1), (6, .getfield 9, 3), (9, .iconst 0, 1), (10, .aload_n 1, 1), (11, .getfield 21, 3), (14, .invokestatic 29, 3), (17, .aload_n 1, 1), (18, .getfield 15, 3), (21, .iconst 0, 1), (22, .aload_n 0, 1), (23, .getfield 15, 3), (26, .iconst 0, 1), (27, .aload_n 1, 1), (28, .getfield 21, 3), (31, .invokestatic 29, 3), (34, .aload_n 1, 1), (35, .getfield 18, 3), (38, .iconst 0, 1), (39, .aload_n 0, 1), (40, .getfield 18, 3), (43, .iconst 0, 1), (44, .aload_n 1, 1), (45, .getfield 21, 3), (48, .invokestatic 29, 3), (51, .aload_n 0, 1), (52, .aload_n 1, 1), (53, .getfield 21, 3), (56, .putfield 21, 3), (59, .return_, 1)] : List (Nat × Instr × Nat)).all fun q => decide (decode cX3_copyFrom q.1 = .ok (q.2.1, q.2.2))) = true := by decide +kernel
theorem dX3_copyFrom_0 : decode cX3_copyFrom 0 = .ok (.aload_n 1, 1) := dd_get dm_X3_copyFrom_0 0 rfl
theorem dX3_copyFrom_1 : decode cX3_copyFrom 1 = .ok (.getfield 9, 3) := dd_get dm_X3_copyFrom_0 1 rfl
theorem dX3_copyFrom_4 : decode cX3_copyFrom 4 = .ok (.iconst 0, 1) := dd_get dm_X3_copyFrom_0 2 rfl
theorem dX3_copyFrom_5 : decode cX3_copyFrom 5 = .ok (.aload_n 0, 1) := dd_get dm_X3_copyFrom_0 3 rfl
theorem dX3_copyFrom_6 : decode cX3_copyFrom 6 = .ok (.getfield 9, 3) := dd_get dm_X3_copyFrom_0 4 rfl
theorem dX3_copyFrom_9 : decode cX3_copyFrom 9 = .ok (.iconst 0, 1) := dd_get dm_X3_copyFrom_0 5 rfl
theorem dX3_copyFrom_10 : decode cX3_copyFrom 10 = .ok (.aload_n 1, 1) := dd_get dm_X3_copyFrom_0 6 rfl
theorem dX3_copyFrom_11 : decode cX3_copyFrom 11 = .ok (.getfield 21, 3) := dd_get dm_X3_copyFrom_0 7 rfl
theorem dX3_copyFrom_14 : decode cX3_copyFrom 14 = .ok (.invokestatic 29, 3) := dd_get dm_X3_copyFrom_0 8 rfl
theorem dX3_copyFrom_17 : decode cX3_copyFrom 17 = .ok (.aload_n 1, 1) := dd_get dm_X3_copyFrom_0 9 rfl
theorem dX3_copyFrom_18 : decode cX3_copyFrom 18 = .ok (.getfield 15, 3) := dd_get dm_X3_copyFrom_0 10 rfl
theorem dX3_copyFrom_21 : decode cX3_copyFrom 21 = .ok (.iconst 0, 1) := dd_get dm_X3_copyFrom_0 11 rfl
theorem dX3_copyFrom_22 : decode cX3_copyFrom 22 = .ok (.aload_n 0, 1) := dd_get dm_X3_copyFrom_0 12 rfl
theorem dX3_copyFrom_23 : decode cX3_copyFrom 23 = .ok (.getfield 15, 3) := dd_get dm_X3_copyFrom_0 13 rfl
theorem dX3_copyFrom_26 : decode cX3_copyFrom 26 = .ok (.iconst 0, 1) := dd_get dm_X3_copyFrom_0 14 rfl
theorem dX3_copyFrom_27 : decode cX3_copyFrom 27 = .ok (.aload_n 1, 1) := dd_get dm_X3_copyFrom_0 15 rfl
theorem dX3_copyFrom_28 : decode cX3_copyFrom 28 = .ok (.getfield 21, 3) := dd_get dm_X3_copyFrom_0 16 rfl
theorem dX3_copyFrom_31 : decode cX3_copyFrom 31 = .ok (.invokestatic 29, 3) := dd_get dm_X3_copyFrom_0 17 rfl
theorem dX3_copyFrom_34 : decode cX3_copyFrom 34 = .ok (.aload_n 1, 1) := dd_get dm_X3_copyFrom_0 18 rfl
theorem dX3_copyFrom_35 : decode cX3_copyFrom 35 = .ok (.getfield 18, 3) := dd_get dm_X3_copyFrom_0 19 rfl
theorem dX3_copyFrom_38 : decode cX3_copyFrom 38 = .ok (.iconst 0, 1) := dd_get dm_X3_copyFrom_0 20 rfl
theorem dX3_copyFrom_39 : decode cX3_copyFrom 39 = .ok (.aload_n 0, 1) := dd_get dm_X3_copyFrom_0 21 rfl
theorem dX3_copyFrom_40 : decode cX3_copyFrom 40 = .ok (.getfield 18, 3) := dd_get dm_X3_copyFrom_0 22 rfl
theorem dX3_copyFrom_43 : decode cX3_copyFrom 43 = .ok (.iconst 0, 1) := dd_get dm_X3_copyFrom_0 23 rfl
theorem dX3_copyFrom_44 : decode cX3_copyFrom 44 = .ok (.aload_n 1, 1) := dd_get dm_X3_copyFrom_0 24 rfl
theorem dX3_copyFrom_45 : decode cX3_copyFrom 45 = .ok (.getfield 21, 3) := dd_get dm_X3_copyFrom_0 25 rfl
theorem dX3_copyFrom_48 : decode cX3_copyFrom 48 = .ok (.invokestatic 29, 3) := dd_get dm_X3_copyFrom_0 26 rfl
theorem dX3_copyFrom_51 : decode cX3_copyFrom 51 = .ok (.aload_n 0, 1) := dd_get dm_X3_copyFrom_0 27 rfl
theorem dX3_copyFrom_52 : decode cX3_copyFrom 52 = .ok (.aload_n 1, 1) := dd_get dm_X3_copyFrom_0 28 rfl
theorem dX3_copyFrom_53 : decode cX3_copyFrom 53 = .ok (.getfield 21, 3) := dd_get dm_X3_copyFrom_0 29 rfl
theorem dX3_copyFrom_56 : decode cX3_copyFrom 56 = .ok (.putfield 21, 3) := dd_get dm_X3_copyFrom_0 30 rfl
theorem dX3_copyFrom_59 : decode cX3_copyFrom 59 = .ok (.return_, 1) := dd_get dm_X3_copyFrom_0 31 rfl
theorem dm_X4_init_0 : (([(0, .aload_n 0, 1), (1, .invokespecial 3, 3), (4, .aload_n 0, 1), (5, .iconst 4, 1), (6, .bipush 50, 2), (8, .multianewarray 9 2, 4), (12, .putfield 11, 3), (15, .aload_n 0, 1), (16, .iconst 4, 1), (17, .newarray .int, 2), (19, .putfield 16, 3), (22, .aload_n 0, 1), (23, .iconst 4, 1), (24, .newarray .int, 2), (26, .putfield 20, 3), (29, .aload_n 0, 1), (30, .getfield 20, 3), (33, .iconst (-1), 1), (34, .invokestatic 23, 3), (37, .return_, 1)] : List (Nat × Instr × Nat)).all fun q => decide (decode cX4_init q.1 = .ok (q.2.1, q.2.2))) = true := by decide +kernel
theorem dX4_init_0 : decode cX4_init 0 = .ok (.aload_n 0, 1) := dd_get dm_X4_init_0 0 rfl
theorem dX4_init_1 : decode cX4_init 1 = .ok (.invokespecial 3, 3) := dd_get dm_X4_init_0 1 rfl
theorem dX4_init_4 : decode cX4_init 4 = .ok (.aload_n 0, 1) := dd_get dm_X4_init_0 2 rfl
theorem dX4_init_5 : decode cX4_init 5 = .ok (.iconst 4, 1) := dd_get dm_X4_init_0 3 rfl
theorem dX4_init_6 : decode cX4_init 6 = .ok (.bipush 50, 2) := dd_get dm_X4_init_0 4 rfl
theorem dX4_init_8 : decode cX4_init 8 = .ok (.multianewarray 9 2, 4) := dd_get dm_X4_init_0 5 rfl
theorem dX4_init_12 : decode cX4_init 12 = .ok (.putfield 11, 3) := dd_get dm_X4_init_0 6 rfl
theorem dX4_init_15 : decode cX4_init 15 = .ok (.aload_n 0, 1) := dd_get dm_X4_init_0 7 rfl
theorem dX4_init_16 : decode cX4_init 16 = .ok (.iconst 4, 1) := dd_get dm_X4_init_0 8 rfl
theorem dX4_init_17 : decode cX4_init 17 = .ok (.newarray .int, 2) := dd_get dm_X4_init_0 9 rfl
theorem dX4_init_19 : decode cX4_init 19 = .ok (.putfield 16, 3) := dd_get dm_X4_init_0 10 rfl
theorem dX4_init_22 : decode cX4_init 22 = .ok (.aload_n 0, 1) := dd_get dm_X4_init_0 11 rfl
theorem dX4_init_23 : decode cX4_init 23 = .ok (.iconst 4, 1) := dd_get dm_X4_init_0 12 rfl
theorem dX4_init_24 : decode cX4_init 24 = .ok (.newarray .int, 2) := dd_get dm_X4_init_0 13 rfl
theorem dX4_init_26 : decode cX4_init 26 = .ok (.putfield 20, 3) := dd_get dm_X4_init_0 14 rfl
theorem dX4_init_29 : decode cX4_init 29 = .ok (.aload_n 0, 1) := dd_get dm_X4_init_0 15 rfl
theorem dX4_init_30 : decode cX4_init 30 = .ok (.getfield 20, 3) := dd_get dm_X4_init_0 16 rfl
theorem dX4_init_33 : decode cX4_init 33 = .ok (.iconst (-1), 1) := dd_get dm_X4_init_0 17 rfl
theorem dX4_init_34 : decode cX4_init 34 = .ok (.invokestatic 23, 3) := dd_get dm_X4_init_0 18 rfl
theorem dX4_init_37 : decode cX4_init 37 = .ok (.return_, 1) := dd_get dm_X4_init_0 19 rfl
theorem dm_X4_isNumber_0 : (([(0, .iload_n 1, 1), (1, .ifCond .lt 12, 3), (4, .iload_n 1, 1), (5, .iconst 4, 1), (6, .if_icmp .ge 7, 3), (9, .iconst 1, 1), (10, .goto 4, 3), (13, .iconst 0, 1), (14, .ireturn, 1)] : List (Nat × Instr × Nat)).all fun q => decide (decode cX4_isNumber q.1 = .ok (q.2.1, q.2.2))) = true := by decide +kernel
theorem dX4_isNumber_0 : decode cX4_isNumber 0 = .ok (.iload_n 1, 1) := dd_get dm_X4_isNumber_0 0 rfl
theorem dX4_isNumber_1 : decode cX4_isNumber 1 = .ok (.ifCond .lt 12, 3) := dd_get dm_X4_isNumber_0 1 rfl
theorem dX4_isNumber_4 : decode cX4_isNumber 4 = .ok (.iload_n 1, 1) := dd_get dm_X4_isNumber_0 2 rfl
theorem dX4_isNumber_5 : decode cX4_isNumber 5 = .ok (.iconst 4, 1) := dd_get dm_X4_isNumber_0 3 rfl
theorem dX4_isNumber_6 : decode cX4_isNumber 6 = .ok (.if_icmp .ge 7, 3) := dd_get dm_X4_isNumber_0 4 rfl
theorem dX4_isNumber_9 : decode cX4_isNumber 9 = .ok (.iconst 1, 1) := dd_get dm_X4_isNumber_0 5 rfl
theorem dX4_isNumber_10 : decode cX4_isNumber 10 = .ok (.goto 4, 3) := dd_get dm_X4_isNumber_0 6 rfl
theorem dX4_isNumber_13 : decode cX4_isNumber 13 = .ok (.iconst 0, 1) := dd_get dm_X4_isNumber_0 7 rfl
theorem dX4_isNumber_14 : decode cX4_isNumber 14 = .ok (.ireturn, 1) := dd_get dm_X4_isNumber_0 8 rfl
theorem dm_X4_isMissing_0 : (([(0, .aload_n 0, 1), (1, .getfield 20, 3), (4, .iload_n 1, 1), (5, .iaload, 1), (6, .iconst (-1), 1), (7, .if_icmp .ne 7, 3), (10, .iconst 1, 1), (11, .goto 4, 3), (14, .iconst 0, 1), (15, .ireturn, 1)] : List (Nat × Instr × Nat)).all fun q => decide (decode cX4_isMissing q.1 = .ok (q.2.1, q.2.2))) = true := by decide +kernel
theorem dX4_isMissing_0 : decode cX4_isMissing 0 = .ok (.aload_n 0, 1) := dd_get dm_X4_isMissing_0 0 rfl
theorem dX4_isMissing_1 : decode cX4_isMissing 1 = .ok (.getfield 20, 3) := dd_get dm_X4_isMissing_0 1 rfl
theorem dX4_isMissing_4 : decode cX4_isMissing 4 = .ok (.iload_n 1, 1) := dd_get dm_X4_isMissing_0 2 rfl
theorem dX4_isMissing_5 : decode cX4_isMissing 5 = .ok (.iaload, 1) := dd_get dm_X4_isMissing_0 3 rfl
theorem dX4_isMissing_6 : decode cX4_isMissing 6 = .ok (.iconst (-1), 1) := dd_get dm_X4_isMissing_0 4 rfl
theorem dX4_isMissing_7 : decode cX4_isMissing 7 = .ok (.if_icmp .ne 7, 3) := dd_get dm_X4_isMissing_0 5 rfl
theorem dX4_isMissing_10 : decode cX4_isMissing 10 = .ok (.iconst 1, 1) := dd_get dm_X4_isMissing_0 6 rfl
theorem dX4_isMissing_11 : decode cX4_isMissing 11 = .ok (.goto 4, 3) := dd_get dm_X4_isMissing_0 7 rfl
theorem dX4_isMissing_14 : decode cX4_isMissing 14 = .ok (.iconst 0, 1) := dd_get dm_X4_isMissing_0 8 rfl
theorem dX4_isMissing_15 : decode cX4_isMissing 15 = .ok (.ireturn, 1) := dd_get dm_X4_isMissing_0 9 rfl
theorem dm_X4_hasCell_0 : (([(0, .iload_n 2, 1), (1, .ifCond .lt 17, 3), (4, .iload_n 2, 1), (5, .aload_n 0, 1), (6, .getfield 20, 3), (9, .iload_n 1, 1), (10, .iaload, 1), (11, .if_icmp .ge 7, 3), (14, .iconst 1, 1), (15, .goto 4, 3), (18, .iconst 0, 1), (19, .ireturn, 1)] : List (Nat × Instr × Nat)).all fun q => decide (decode cX4_hasCell q.1 = .ok (q.2.1, q.2.2))) = true := by decide +kernel
theorem dX4_hasCell_0 : decode cX4_hasCell 0 = .ok (.iload_n 2, 1) := dd_get dm_X4_hasCell_0 0 rfl
theorem dX4_hasCell_1 : decode cX4_hasCell 1 = .ok (.ifCond .lt 17, 3) := dd_get dm_X4_hasCell_0 1 rfl
theorem dX4_hasCell_4 : decode cX4_hasCell 4 = .ok (.iload_n 2, 1) := dd_get dm_X4_hasCell_0 2 rfl
theorem dX4_hasCell_5 : decode cX4_hasCell 5 = .ok (.aload_n 0, 1) := dd_get dm_X4_hasCell_0 3 rfl
theorem dX4_hasCell_6 : decode cX4_hasCell 6 = .ok (.getfield 20, 3) := dd_get dm_X4_hasCell_0 4 rfl
theorem dX4_hasCell_9 : decode cX4_hasCell 9 = .ok (.iload_n 1, 1) := dd_get dm_X4_hasCell_0 5 rfl
theorem dX4_hasCell_10 : decode cX4_hasCell 10 = .ok (.iaload, 1) := dd_get dm_X4_hasCell_0 6 rfl
theorem dX4_hasCell_11 : decode cX4_hasCell 11 = .ok (.if_icmp .ge 7, 3) := dd_get dm_X4_hasCell_0 7 rfl
theorem dX4_hasCell_14 : decode cX4_hasCell 14 = .ok (.iconst 1, 1) := dd_get dm_X4_hasCell_0 8 rfl
theorem dX4_hasCell_15 : decode cX4_hasCell 15 = .ok (.goto 4, 3) := dd_get dm_X4_hasCell_0 9 rfl
theorem dX4_hasCell_18 : decode cX4_hasCell 18 = .ok (.iconst 0, 1) := dd_get dm_X4_hasCell_0 10 rfl
theorem dX4_hasCell_19 : decode cX4_hasCell 19 = .ok (.ireturn, 1) := dd_get dm_X4_hasCell_0 11 rfl
theorem dm_X4_make_0 : (([(0, .aload_n 0, 1), (1, .getfield 16, 3), (4, .iload_n 1, 1), (5, .iload_n 2, 1), (6, .iastore, 1), (7, .aload_n 0, 1), (8, .getfield 20, 3), (11, .iload_n 1, 1), (12, .iload_n 3, 1), (13, .iastore, 1), (14, .aload_n 0, 1), (15, .getfield 11, 3), (18, .iload_n 1, 1), (19, .aaload, 1), (20, .lconst 1, 1), (21, .invokestatic 29, 3), (24, .return_, 1)] : List (Nat × Instr × Nat)).all fun q => decide (decode cX4_make q.1 = .ok (q.2.1, q.2.2))) = true := by decide +kernel
theorem dX4_make_0 : decode cX4_make 0 = .ok (.aload_n 0, 1) := dd_get dm_X4_make_0 0 rfl
theorem dX4_make_1 : decode cX4_make 1 = .ok (.getfield 16, 3) := dd_get dm_X4_make_0 1 rfl
theorem dX4_make_4 : decode cX4_make 4 = .ok (.iload_n 1, 1) := dd_get dm_X4_make_0 2 rfl
theorem dX4_make_5 : decode cX4_make 5 = .ok (.iload_n 2, 1) := dd_get dm_X4_make_0 3 rfl
theorem dX4_make_6 : decode cX4_make 6 = .ok (.iastore, 1) := dd_get dm_X4_make_0 4 rfl
theorem dX4_make_7 : decode cX4_make 7 = .ok (.aload_n 0, 1) := dd_get dm_X4_make_0 5 rfl
theorem dX4_make_8 : decode cX4_make 8 = .ok (.getfield 20, 3) := dd_get dm_X4_make_0 6 rfl
theorem dX4_make_11 : decode cX4_make 11 = .ok (.iload_n 1, 1) := dd_get dm_X4_make_0 7 rfl
theorem dX4_make_12 : decode cX4_make 12 = .ok (.iload_n 3, 1) := dd_get dm_X4_make_0 8 rfl
theorem dX4_make_13 : decode cX4_make 13 = .ok (.iastore, 1) := dd_get dm_X4_make_0 9 rfl
theorem dX4_make_14 : decode cX4_make 14 = .ok (.aload_n 0, 1) := dd_get dm_X4_make_0 10 rfl
theorem dX4_make_15 : decode cX4_make 15 = .ok (.getfield 11, 3) := dd_get dm_X4_make_0 11 rfl
theorem dX4_make_18 : decode cX4_make 18 = .ok (.iload_n 1, 1) := dd_get dm_X4_make_0 12 rfl
theorem dX4_make_19 : decode cX4_make 19 = .ok (.aaload, 1) := dd_get dm_X4_make_0 13 rfl
theorem dX4_make_20 : decode cX4_make 20 = .ok (.lconst 1, 1) := dd_get dm_X4_make_0 14 rfl
theorem dX4_make_21 : decode cX4_make 21 = .ok (.invokestatic 29, 3) := dd_get dm_X4_make_0 15 rfl
theorem dX4_make_24 : decode cX4_make 24 = .ok (.return_, 1) := dd_get dm_X4_make_0 16 rfl
theorem dm_X4_write_0 : (([(0, .aload_n 0, 1), (1, .getfield 16, 3), (4, .iload_n 1, 1), (5, .iaload, 1), (6, .lookupswitch 55 #[(0, 26), (1, 41)], 26), (32, .aload_n 0, 1), (33, .getfield 11, 3), (36, .iload_n 1, 1), (37, .aaload, 1), (38, .iload_n 2, 1), (39, .lload_n 3, 1), (40, .l2i, 1), (41, .i2s, 1), (42, .i2l, 1), (43, .lastore, 1), (44, .goto 26, 3), (47, .aload_n 0, 1), (48, .getfield 11, 3), (51, .iload_n 1, 1), (52, .aaload, 1), (53, .iload_n 2, 1), (54, .lload_n 3, 1), (55, .l2i, 1), (56, .i2l, 1), (57, .lastore, 1), (58, .goto 12, 3), (61, .aload_n 0, 1), (62, .getfield 11, 3), (65, .iload_n 1, 1), (66, .aaload, 1), (67, .iload_n 2, 1), (68, .lload_n 3, 1), (69, .lastore, 1), (70, .return_, 1)] : List (Nat × Instr × Nat)).all fun q => decide (decode cX4_write q.1 = .ok (q.2.1, q.2.2))) = true := by decide +kernel
theorem dX4_write_0 : decode cX4_write 0 = .ok (.aload_n 0, 1) := dd_get dm_X4_write_0 0 rfl
theorem dX4_write_1 : decode cX4_write 1 = .ok (.getfield 16, 3) := dd_get dm_X4_write_0 1 rfl
theorem dX4_write_4 : decode cX4_write 4 = .ok (.iload_n 1, 1) := dd_get dm_X4_write_0 2 rfl
theorem dX4_write_5 : decode cX4_write 5 = .ok (.iaload, 1) := dd_get dm_X4_write_0 3 rfl
theorem dX4_write_6 : decode cX4_write 6 = .ok (.lookupswitch 55 #[(0, 26), (1, 41)], 26) := dd_get dm_X4_write_0 4 rfl
theorem dX4_write_32 : decode cX4_write 32 = .ok (.aload_n 0, 1) := dd_get dm_X4_write_0 5 rfl
theorem dX4_write_33 : decode cX4_write 33 = .ok (.getfield 11, 3) := dd_get dm_X4_write_0 6 rfl
theorem dX4_write_36 : decode cX4_write 36 = .ok (.iload_n 1, 1) := dd_get dm_X4_write_0 7 rfl
theorem dX4_write_37 : decode cX4_write 37 = .ok (.aaload, 1) := dd_get dm_X4_write_0 8 rfl
theorem dX4_write_38 : decode cX4_write 38 = .ok (.iload_n 2, 1) := dd_get dm_X4_write_0 9 rfl
theorem dX4_write_39 : decode cX4_write 39 = .ok (.lload_n 3, 1) := dd_get dm_X4_write_0 10 rfl
theorem dX4_write_40 : decode cX4_write 40 = .ok (.l2i, 1) := dd_get dm_X4_write_0 11 rfl
theorem dX4_write_41 : decode cX4_write 41 = .ok (.i2s, 1) := dd_get dm_X4_write_0 12 rfl
theorem dX4_write_42 : decode cX4_write 42 = .ok (.i2l, 1) := dd_get dm_X4_write_0 13 rfl
theorem dX4_write_43 : decode cX4_write 43 = .ok (.lastore, 1) := dd_get dm_X4_write_0 14 rfl
theorem dX4_write_44 : decode cX4_write 44 = .ok (.goto 26, 3) := dd_get dm_X4_write_0 15 rfl
theorem dX4_write_47 : decode cX4_write 47 = .ok (.aload_n 0, 1) := dd_get dm_X4_write_0 16 rfl
theorem dX4_write_48 : decode cX4_write 48 = .ok (.getfield 11, 3) := dd_get dm_X4_write_0 17 rfl
theorem dX4_write_51 : decode cX4_write 51 = .ok (.iload_n 1, 1) := dd_get dm_X4_write_0 18 rfl
theorem dX4_write_52 : decode cX4_write 52 = .ok (.aaload, 1) := dd_get dm_X4_write_0 19 rfl
theorem dX4_write_53 : decode cX4_write 53 = .ok (.iload_n 2, 1) := dd_get dm_X4_write_0 20 rfl
theorem dX4_write_54 : decode cX4_write 54 = .ok (.lload_n 3, 1) := dd_get dm_X4_write_0 21 rfl
theorem dX4_write_55 : decode cX4_write 55 = .ok (.l2i, 1) := dd_get dm_X4_write_0 22 rfl
theorem dX4_write_56 : decode cX4_write 56 = .ok (.i2l, 1) := dd_get dm_X4_write_0 23 rfl
theorem dX4_write_57 : decode cX4_write 57 = .ok (.lastore, 1) := dd_get dm_X4_write_0 24 rfl
theorem dX4_write_58 : decode cX4_write 58 = .ok (.goto 12, 3) := dd_get dm_X4_write_0 25 rfl
theorem dX4_write_61 : decode cX4_write 61 = .ok (.aload_n 0, 1) := dd_get dm_X4_write_0 26 rfl
theorem dX4_write_62 : decode cX4_write 62 = .ok (.getfield 11, 3) := dd_get dm_X4_write_0 27 rfl
theorem dX4_write_65 : decode cX4_write 65 = .ok (.iload_n 1, 1) := dd_get dm_X4_write_0 28 rfl
theorem dX4_write_66 : decode cX4_write 66 = .ok (.aaload, 1) := dd_get dm_X4_write_0 29 rfl
theorem dX4_write_67 : decode cX4_write 67 = .ok (.iload_n 2, 1) := dd_get dm_X4_write_0 30 rfl
theorem dX4_write_68 : decode cX4_write 68 = .ok (.lload_n 3, 1) := dd_get dm_X4_write_0 31 rfl
theorem dX4_write_69 : decode cX4_write 69 = .ok (.lastore, 1) := dd_get dm_X4_write_0 32 rfl
theorem dX4_write_70 : decode cX4_write 70 = .ok (.return_, 1) := dd_get dm_X4_write_0 33 rfl
theorem dm_X4_drop_0 : (([(0, .aload_n 0, 1), (1, .getfield 20, 3), (4, .iload_n 1, 1), (5, .iconst (-1), 1), (6, .iastore, 1), (7, .return_, 1)] : List (Nat × Instr × Nat)).all fun q => decide (decode cX4_drop q.1 = .ok (q.2.1, q.2.2))) = true := by decide +kernel
theorem dX4_drop_0 : decode cX4_drop 0 = .ok (.aload_n 0, 1) := dd_get dm_X4_drop_0 0 rfl
theorem dX4_drop_1 : decode cX4_drop 1 = .ok (.getfield 20, 3) := dd_get dm_X4_drop_0 1 rfl
theorem dX4_drop_4 : decode cX4_drop 4 = .ok (.iload_n 1, 1) := dd_get dm_X4_drop_0 2 rfl
theorem dX4_drop_5 : decode cX4_drop 5 = .ok (.iconst (-1), 1) := dd_get dm_X4_drop_0 3 rfl
theorem dX4_drop_6 : decode cX4_drop 6 = .ok (.iastore, 1) := dd_get dm_X4_drop_0 4 rfl
theorem dX4_drop_7 : decode cX4_drop 7 = .ok (.return_, 1) := dd_get dm_X4_drop_0 5 rfl
theorem dm_X5_init_0 : (([(0, .aload_n 0, 1), (1, .invokespecial 3, 3), (4, .aload_n 0, 1), (5, .bipush 12, 2), (7, .newarray .int, 2), (9, .putfield 9, 3), (12, .aload_n 0, 1), (13, .bipush 12, 2), (15, .newarray .int, 2), (17, .putfield 15, 3), (20, .aload_n 0, 1), (21, .bipush 8, 2), (23, .newarray .int, 2), (25, .putfield 18, 3), (28, .aload_n 0, 1), (29, .bipush 8, 2), (31, .newarray .int, 2), (33, .putfield 21, 3), (36, .aload_n 0, 1), (37, .bipush 8, 2), (39, .newarray .int, 2), (41, .putfield 24, 3), (44, .aload_n 0, 1), (45, .bipush 8, 2), (47, .newarray .int, 2), (49, .putfield 27, 3), (52, .aload_n 0, 1), (53, .iconst 0, 1), (54, .putfield 30, 3), (57, .aload_n 0, 1), (58, .iconst 0, 1), (59, .putfield 34, 3), (62, .aload_n 0, 1), (63, .ldc 38, 2), (65, .putfield 39, 3), (68, .aload_n 0, 1), (69, .aload_n 1, 1), (70, .putfield 42, 3), (73, .return_, 1)] : List (Nat × Instr × Nat)).all fun q => decide (decode cX5_init q.1 = .ok (q.2.1, q.2.2))) = true := by decide +kernel
theorem dX5_init_0 : decode cX5_init 0 = .ok (.aload_n 0, 1) := dd_get dm_X5_init_0 0 rfl
theorem dX5_init_1 : decode cX5_init 1 = .ok (.invokespecial 3, 3) := dd_get dm_X5_init_0 1 rfl
theorem dX5_init_4 : decode cX5_init 4 = .ok (.aload_n 0, 1) := dd_get dm_X5_init_0 2 rfl
theorem dX5_init_5 : decode cX5_init 5 = .ok (.bipush 12, 2) := dd_get dm_X5_init_0 3 rfl
theorem dX5_init_7 : decode cX5_init 7 = .ok (.newarray .int, 2) := dd_get dm_X5_init_0 4 rfl
theorem dX5_init_9 : decode cX5_init 9 = .ok (.putfield 9, 3) := dd_get dm_X5_init_0 5 rfl
theorem dX5_init_12 : decode cX5_init 12 = .ok (.aload_n 0, 1) := dd_get dm_X5_init_0 6 rfl
theorem dX5_init_13 : decode cX5_init 13 = .ok (.bipush 12, 2) := dd_get dm_X5_init_0 7 rfl
theorem dX5_init_15 : decode cX5_init 15 = .ok (.newarray .int, 2) := dd_get dm_X5_init_0 8 rfl
theorem dX5_init_17 : decode cX5_init 17 = .ok (.putfield 15, 3) := dd_get dm_X5_init_0 9 rfl
theorem dX5_init_20 : decode cX5_init 20 = .ok (.aload_n 0, 1) := dd_get dm_X5_init_0 10 rfl
theorem dX5_init_21 : decode cX5_init 21 = .ok (.bipush 8, 2) := dd_get dm_X5_init_0 11 rfl
theorem dX5_init_23 : decode cX5_init 23 = .ok (.newarray .int, 2) := dd_get dm_X5_init_0 12 rfl
theorem dX5_init_25 : decode cX5_init 25 = .ok (.putfield 18, 3) := dd_get dm_X5_init_0 13 rfl
theorem dX5_init_28 : decode cX5_init 28 = .ok (.aload_n 0, 1) := dd_get dm_X5_init_0 14 rfl
theorem dX5_init_29 : decode cX5_init 29 = .ok (.bipush 8, 2) := dd_get dm_X5_init_0 15 rfl
theorem dX5_init_31 : decode cX5_init 31 = .ok (.newarray .int, 2) := dd_get dm_X5_init_0 16 rfl
theorem dX5_init_33 : decode cX5_init 33 = .ok (.putfield 21, 3) := dd_get dm_X5_init_0 17 rfl
theorem dX5_init_36 : decode cX5_init 36 = .ok (.aload_n 0, 1) := dd_get dm_X5_init_0 18 rfl
theorem dX5_init_37 : decode cX5_init 37 = .ok (.bipush 8, 2) := dd_get dm_X5_init_0 19 rfl
theorem dX5_init_39 : decode cX5_init 39 = .ok (.newarray .int, 2) := dd_get dm_X5_init_0 20 rfl
theorem dX5_init_41 : decode cX5_init 41 = .ok (.putfield 24, 3) := dd_get dm_X5_init_0 21 rfl
theorem dX5_init_44 : decode cX5_init 44 = .ok (.aload_n 0, 1) := dd_get dm_X5_init_0 22 rfl
theorem dX5_init_45 : decode cX5_init 45 = .ok (.bipush 8, 2) := dd_get dm_X5_init_0 23 rfl
theorem dX5_init_47 : decode cX5_init 47 = .ok (.newarray .int, 2) := dd_get dm_X5_init_0 24 rfl
theorem dX5_init_49 : decode cX5_init 49 = .ok (.putfield 27, 3) := dd_get dm_X5_init_0 25 rfl
theorem dX5_init_52 : decode cX5_init 52 = .ok (.aload_n 0, 1) := dd_get dm_X5_init_0 26 rfl
theorem dX5_init_53 : decode cX5_init 53 = .ok (.iconst 0, 1) := dd_get dm_X5_init_0 27 rfl
theorem dX5_init_54 : decode cX5_init 54 = .ok (.putfield 30, 3) := dd_get dm_X5_init_0 28 rfl
theorem dX5_init_57 : decode cX5_init 57 = .ok (.aload_n 0, 1) := dd_get dm_X5_init_0 29 rfl
theorem dX5_init_58 : decode cX5_init 58 = .ok (.iconst 0, 1) := dd_get dm_X5_init_0 30 rfl
theorem dX5_init_59 : decode cX5_init 59 = .ok (.putfield 34, 3) := dd_get dm_X5_init_0 31 rfl
theorem dX5_init_62 : decode cX5_init 62 = .ok (.aload_n 0, 1) := dd_get dm_X5_init_0 32 rfl
theorem dX5_init_63 : decode cX5_init 63 = .ok (.ldc 38, 2) := dd_get dm_X5_init_0 33 rfl
theorem dX5_init_65 : decode cX5_init 65 = .ok (.putfield 39, 3) := dd_get dm_X5_init_0 34 rfl
theorem dX5_init_68 : decode cX5_init 68 = .ok (.aload_n 0, 1) := dd_get dm_X5_init_0 35 rfl
theorem dX5_init_69 : decode cX5_init 69 = .ok (.aload_n 1, 1) := dd_get dm_X5_init_0 36 rfl
theorem dX5_init_70 : decode cX5_init 70 = .ok (.putfield 42, 3) := dd_get dm_X5_init_0 37 rfl
theorem dX5_init_73 : decode cX5_init 73 = .ok (.return_, 1) := dd_get dm_X5_init_0 38 rfl
theorem dm_X5_begin_0 : (([(0, .aload_n 0, 1), (1, .getfield 42, 3), (4, .invokevirtual 46, 3), (7, .aload_n 0, 1), (8, .getfield 42, 3), (11, .getfield 51, 3), (14, .iconst 0, 1), (15, .aload_n 0, 1), (16, .getfield 9, 3), (19, .iconst 0, 1), (20, .bipush 12, 2), (22, .invokestatic 54, 3), (25, .aload_n 0, 1), (26, .getfield 15, 3), (29, .iconst 0, 1), (30, .invokestatic 60, 3), (33, .aload_n 0, 1), (34, .iconst 0, 1), (35, .putfield 30, 3), (38, .aload_n 0, 1), (39, .ldc 38, 2), (41, .putfield 39, 3), (44, .aload_n 0, 1), (45, .iconst 0, 1), (46, .putfield 34, 3), (49, .iconst 0, 1), (50, .istore_n 1, 1), (51, .iload_n 1, 1), (52, .aload_n 0, 1), (53, .getfield 42, 3), (56, .getfield 66, 3), (59, .if_icmp .ge 49, 3), (62, .aload_n 0, 1), (63, .getfield 34, 3), (66, .bipush 8, 2), (68, .if_icmp .ge 40, 3), (71, .aload_n 0, 1), (72, .getfield 42, 3), (75, .iload_n 1, 1), (76, .invokevirtual 69, 3), (79, .ifCond .eq 23, 3), (82, .aload_n 0, 1), (83, .getfield 18, 3), (86, .aload_n 0, 1), (87, .getfield 34, 3), (90, .iload_n 1, 1), (91, .iastore, 1), (92, .aload_n 0, 1), (93, .dup, 1), (94, .getfield 34, 3), (97, .iconst 1, 1), (98, .iadd, 1), (99, .putfield 34, 3), (102, .iinc 1 1, 3), (105, .goto (-54), 3), (108, .return_, 1)] : List (Nat × Instr × Nat)).all fun q => decide (decode cX5_begin q.1 = .ok (q.2.1, q.2.2))) = true := by decide +kernel
theorem dX5_begin_0 : decode cX5_begin 0 = .ok (.aload_n 0, 1) := dd_get dm_X5_begin_0 0 rfl
theorem dX5_begin_1 : decode cX5_begin 1 = .ok (.getfield 42, 3) := dd_get dm_X5_begin_0 1 rfl
theorem dX5_begin_4 : decode cX5_begin 4 = .ok (.invokevirtual 46, 3) := dd_get dm_X5_begin_0 2 rfl
theorem dX5_begin_7 : decode cX5_begin 7 = .ok (.aload_n 0, 1) := dd_get dm_X5_begin_0 3 rfl
theorem dX5_begin_8 : decode cX5_begin 8 = .ok (.getfield 42, 3) := dd_get dm_X5_begin_0 4 rfl
theorem dX5_begin_11 : decode cX5_begin 11 = .ok (.getfield 51, 3) := dd_get dm_X5_begin_0 5 rfl
theorem dX5_begin_14 : decode cX5_begin 14 = .ok (.iconst 0, 1) := dd_get dm_X5_begin_0 6 rfl
theorem dX5_begin_15 : decode cX5_begin 15 = .ok (.aload_n 0, 1) := dd_get dm_X5_begin_0 7 rfl
theorem dX5_begin_16 : decode cX5_begin 16 = .ok (.getfield 9, 3) := dd_get dm_X5_begin_0 8 rfl
theorem dX5_begin_19 : decode cX5_begin 19 = .ok (.iconst 0, 1) := dd_get dm_X5_begin_0 9 rfl
theorem dX5_begin_20 : decode cX5_begin 20 = .ok (.bipush 12, 2) := dd_get dm_X5_begin_0 10 rfl
theorem dX5_begin_22 : decode cX5_begin 22 = .ok (.invokestatic 54, 3) := dd_get dm_X5_begin_0 11 rfl
theorem dX5_begin_25 : decode cX5_begin 25 = .ok (.aload_n 0, 1) := dd_get dm_X5_begin_0 12 rfl
theorem dX5_begin_26 : decode cX5_begin 26 = .ok (.getfield 15, 3) := dd_get dm_X5_begin_0 13 rfl
theorem dX5_begin_29 : decode cX5_begin 29 = .ok (.iconst 0, 1) := dd_get dm_X5_begin_0 14 rfl
theorem dX5_begin_30 : decode cX5_begin 30 = .ok (.invokestatic 60, 3) := dd_get dm_X5_begin_0 15 rfl
theorem dX5_begin_33 : decode cX5_begin 33 = .ok (.aload_n 0, 1) := dd_get dm_X5_begin_0 16 rfl
theorem dX5_begin_34 : decode cX5_begin 34 = .ok (.iconst 0, 1) := dd_get dm_X5_begin_0 17 rfl
theorem dX5_begin_35 : decode cX5_begin 35 = .ok (.putfield 30, 3) := dd_get dm_X5_begin_0 18 rfl
theorem dX5_begin_38 : decode cX5_begin 38 = .ok (.aload_n 0, 1) := dd_get dm_X5_begin_0 19 rfl
theorem dX5_begin_39 : decode cX5_begin 39 = .ok (.ldc 38, 2) := dd_get dm_X5_begin_0 20 rfl
theorem dX5_begin_41 : decode cX5_begin 41 = .ok (.putfield 39, 3) := dd_get dm_X5_begin_0 21 rfl
theorem dX5_begin_44 : decode cX5_begin 44 = .ok (.aload_n 0, 1) := dd_get dm_X5_begin_0 22 rfl
theorem dX5_begin_45 : decode cX5_begin 45 = .ok (.iconst 0, 1) := dd_get dm_X5_begin_0 23 rfl
theorem dX5_begin_46 : decode cX5_begin 46 = .ok (.putfield 34, 3) := dd_get dm_X5_begin_0 24 rfl
theorem dX5_begin_49 : decode cX5_begin 49 = .ok (.iconst 0, 1) := dd_get dm_X5_begin_0 25 rfl
theorem dX5_begin_50 : decode cX5_begin 50 = .ok (.istore_n 1, 1) := dd_get dm_X5_begin_0 26 rfl
theorem dX5_begin_51 : decode cX5_begin 51 = .ok (.iload_n 1, 1) := dd_get dm_X5_begin_0 27 rfl
theorem dX5_begin_52 : decode cX5_begin 52 = .ok (.aload_n 0, 1) := dd_get dm_X5_begin_0 28 rfl
theorem dX5_begin_53 : decode cX5_begin 53 = .ok (.getfield 42, 3) := dd_get dm_X5_begin_0 29 rfl
theorem dX5_begin_56 : decode cX5_begin 56 = .ok (.getfield 66, 3) := dd_get dm_X5_begin_0 30 rfl
theorem dX5_begin_59 : decode cX5_begin 59 = .ok (.if_icmp .ge 49, 3) := dd_get dm_X5_begin_0 31 rfl
theorem dX5_begin_62 : decode cX5_begin 62 = .ok (.aload_n 0, 1) := dd_get dm_X5_begin_0 32 rfl
theorem dX5_begin_63 : decode cX5_begin 63 = .ok (.getfield 34, 3) := dd_get dm_X5_begin_0 33 rfl
theorem dX5_begin_66 : decode cX5_begin 66 = .ok (.bipush 8, 2) := dd_get dm_X5_begin_0 34 rfl
theorem dX5_begin_68 : decode cX5_begin 68 = .ok (.if_icmp .ge 40, 3) := dd_get dm_X5_begin_0 35 rfl
theorem dX5_begin_71 : decode cX5_begin 71 = .ok (.aload_n 0, 1) := dd_get dm_X5_begin_0 36 rfl
theorem dX5_begin_72 : decode cX5_begin 72 = .ok (.getfield 42, 3) := dd_get dm_X5_begin_0 37 rfl
theorem dX5_begin_75 : decode cX5_begin 75 = .ok (.iload_n 1, 1) := dd_get dm_X5_begin_0 38 rfl
theorem dX5_begin_76 : decode cX5_begin 76 = .ok (.invokevirtual 69, 3) := dd_get dm_X5_begin_0 39 rfl
theorem dX5_begin_79 : decode cX5_begin 79 = .ok (.ifCond .eq 23, 3) := dd_get dm_X5_begin_0 40 rfl
theorem dX5_begin_82 : decode cX5_begin 82 = .ok (.aload_n 0, 1) := dd_get dm_X5_begin_0 41 rfl
theorem dX5_begin_83 : decode cX5_begin 83 = .ok (.getfield 18, 3) := dd_get dm_X5_begin_0 42 rfl
theorem dX5_begin_86 : decode cX5_begin 86 = .ok (.aload_n 0, 1) := dd_get dm_X5_begin_0 43 rfl
theorem dX5_begin_87 : decode cX5_begin 87 = .ok (.getfield 34, 3) := dd_get dm_X5_begin_0 44 rfl
theorem dX5_begin_90 : decode cX5_begin 90 = .ok (.iload_n 1, 1) := dd_get dm_X5_begin_0 45 rfl
theorem dX5_begin_91 : decode cX5_begin 91 = .ok (.iastore, 1) := dd_get dm_X5_begin_0 46 rfl
theorem dX5_begin_92 : decode cX5_begin 92 = .ok (.aload_n 0, 1) := dd_get dm_X5_begin_0 47 rfl
theorem dX5_begin_93 : decode cX5_begin 93 = .ok (.dup, 1) := dd_get dm_X5_begin_0 48 rfl
theorem dX5_begin_94 : decode cX5_begin 94 = .ok (.getfield 34, 3) := dd_get dm_X5_begin_0 49 rfl
theorem dX5_begin_97 : decode cX5_begin 97 = .ok (.iconst 1, 1) := dd_get dm_X5_begin_0 50 rfl
theorem dX5_begin_98 : decode cX5_begin 98 = .ok (.iadd, 1) := dd_get dm_X5_begin_0 51 rfl
theorem dX5_begin_99 : decode cX5_begin 99 = .ok (.putfield 34, 3) := dd_get dm_X5_begin_0 52 rfl
theorem dX5_begin_102 : decode cX5_begin 102 = .ok (.iinc 1 1, 3) := dd_get dm_X5_begin_0 53 rfl
theorem dX5_begin_105 : decode cX5_begin 105 = .ok (.goto (-54), 3) := dd_get dm_X5_begin_0 54 rfl
theorem dX5_begin_108 : decode cX5_begin 108 = .ok (.return_, 1) := dd_get dm_X5_begin_0 55 rfl
theorem dm_X5_tie_0 : (([(0, .aload_n 1, 1), (1, .iload_n 2, 1), (2, .dup2, 1), (3, .iaload, 1), (4, .iconst 1, 1), (5, .iload_n 3, 1), (6, .ishl, 1), (7, .ior, 1), (8, .iastore, 1), (9, .aload_n 1, 1), (10, .iload_n 3, 1), (11, .dup2, 1), (12, .iaload, 1), (13, .iconst 1, 1), (14, .iload_n 2, 1), (15, .ishl, 1), (16, .ior, 1), (17, .iastore, 1), (18, .return_, 1)] : List (Nat × Instr × Nat)).all fun q => decide (decode cX5_tie q.1 = .ok (q.2.1, q.2.2))) = true := by decide +kernel
theorem dX5_tie_0 : decode cX5_tie 0 = .ok (.aload_n 1, 1) := dd_get dm_X5_tie_0 0 rfl
theorem dX5_tie_1 : decode cX5_tie 1 = .ok (.iload_n 2, 1) := dd_get dm_X5_tie_0 1 rfl
theorem dX5_tie_2 : decode cX5_tie 2 = .ok (.dup2, 1) := dd_get dm_X5_tie_0 2 rfl
theorem dX5_tie_3 : decode cX5_tie 3 = .ok (.iaload, 1) := dd_get dm_X5_tie_0 3 rfl
theorem dX5_tie_4 : decode cX5_tie 4 = .ok (.iconst 1, 1) := dd_get dm_X5_tie_0 4 rfl
theorem dX5_tie_5 : decode cX5_tie 5 = .ok (.iload_n 3, 1) := dd_get dm_X5_tie_0 5 rfl
theorem dX5_tie_6 : decode cX5_tie 6 = .ok (.ishl, 1) := dd_get dm_X5_tie_0 6 rfl
theorem dX5_tie_7 : decode cX5_tie 7 = .ok (.ior, 1) := dd_get dm_X5_tie_0 7 rfl
theorem dX5_tie_8 : decode cX5_tie 8 = .ok (.iastore, 1) := dd_get dm_X5_tie_0 8 rfl
theorem dX5_tie_9 : decode cX5_tie 9 = .ok (.aload_n 1, 1) := dd_get dm_X5_tie_0 9 rfl
theorem dX5_tie_10 : decode cX5_tie 10 = .ok (.iload_n 3, 1) := dd_get dm_X5_tie_0 10 rfl
theorem dX5_tie_11 : decode cX5_tie 11 = .ok (.dup2, 1) := dd_get dm_X5_tie_0 11 rfl
theorem dX5_tie_12 : decode cX5_tie 12 = .ok (.iaload, 1) := dd_get dm_X5_tie_0 12 rfl
theorem dX5_tie_13 : decode cX5_tie 13 = .ok (.iconst 1, 1) := dd_get dm_X5_tie_0 13 rfl
theorem dX5_tie_14 : decode cX5_tie 14 = .ok (.iload_n 2, 1) := dd_get dm_X5_tie_0 14 rfl
theorem dX5_tie_15 : decode cX5_tie 15 = .ok (.ishl, 1) := dd_get dm_X5_tie_0 15 rfl
theorem dX5_tie_16 : decode cX5_tie 16 = .ok (.ior, 1) := dd_get dm_X5_tie_0 16 rfl
theorem dX5_tie_17 : decode cX5_tie 17 = .ok (.iastore, 1) := dd_get dm_X5_tie_0 17 rfl
theorem dX5_tie_18 : decode cX5_tie 18 = .ok (.return_, 1) := dd_get dm_X5_tie_0 18 rfl
theorem dm_X5_run_0 : (([(0, .aload_n 0, 1), (1, .getfield 34, 3), (4, .iconst 3, 1), (5, .if_icmp .lt 10, 3), (8, .aload_n 0, 1), (9, .invokevirtual 73, 3), (12, .ifCond .ne 5, 3), (15, .iconst 0, 1), (16, .ireturn, 1), (17, .aload_n 0, 1), (18, .getfield 21, 3), (21, .iconst 0, 1), (22, .aload_n 0, 1), (23, .getfield 18, 3), (26, .iconst 0, 1), (27, .iaload, 1), (28, .iastore, 1), (29, .aload_n 0, 1), (30, .iconst 1, 1), (31, .iconst 1, 1), (32, .aload_n 0, 1), (33, .getfield 18, 3), (36, .iconst 0, 1), (37, .iaload, 1), (38, .ishl, 1), (39, .iconst 0, 1), (40, .invokevirtual 77, 3), (43, .aload_n 0, 1), (44, .getfield 39, 3), (47, .ldc 38, 2), (49, .if_icmp .eq 7, 3), (52, .iconst 1, 1), (53, .goto 4, 3), (56, .iconst 0, 1), (57, .ireturn, 1)] : List (Nat × Instr × Nat)).all fun q => decide (decode cX5_run q.1 = .ok (q.2.1, q.2.2))) = true := by decide +kernel
theorem dX5_run_0 : decode cX5_run 0 = .ok (.aload_n 0, 1) := dd_get dm_X5_run_0 0 rfl
theorem dX5_run_1 : decode cX5_run 1 = .ok (.getfield 34, 3) := dd_get dm_X5_run_0 1 rfl
theorem dX5_run_4 : decode cX5_run 4 = .ok (.iconst 3, 1) := dd_get dm_X5_run_0 2 rfl
theorem dX5_run_5 : decode cX5_run 5 = .ok (.if_icmp .lt 10, 3) := dd_get dm_X5_run_0 3 rfl
theorem dX5_run_8 : decode cX5_run 8 = .ok (.aload_n 0, 1) := dd_get dm_X5_run_0 4 rfl
theorem dX5_run_9 : decode cX5_run 9 = .ok (.invokevirtual 73, 3) := dd_get dm_X5_run_0 5 rfl
theorem dX5_run_12 : decode cX5_run 12 = .ok (.ifCond .ne 5, 3) := dd_get dm_X5_run_0 6 rfl
theorem dX5_run_15 : decode cX5_run 15 = .ok (.iconst 0, 1) := dd_get dm_X5_run_0 7 rfl
theorem dX5_run_16 : decode cX5_run 16 = .ok (.ireturn, 1) := dd_get dm_X5_run_0 8 rfl
theorem dX5_run_17 : decode cX5_run 17 = .ok (.aload_n 0, 1) := dd_get dm_X5_run_0 9 rfl
theorem dX5_run_18 : decode cX5_run 18 = .ok (.getfield 21, 3) := dd_get dm_X5_run_0 10 rfl
theorem dX5_run_21 : decode cX5_run 21 = .ok (.iconst 0, 1) := dd_get dm_X5_run_0 11 rfl
theorem dX5_run_22 : decode cX5_run 22 = .ok (.aload_n 0, 1) := dd_get dm_X5_run_0 12 rfl
theorem dX5_run_23 : decode cX5_run 23 = .ok (.getfield 18, 3) := dd_get dm_X5_run_0 13 rfl
theorem dX5_run_26 : decode cX5_run 26 = .ok (.iconst 0, 1) := dd_get dm_X5_run_0 14 rfl
theorem dX5_run_27 : decode cX5_run 27 = .ok (.iaload, 1) := dd_get dm_X5_run_0 15 rfl
theorem dX5_run_28 : decode cX5_run 28 = .ok (.iastore, 1) := dd_get dm_X5_run_0 16 rfl
theorem dX5_run_29 : decode cX5_run 29 = .ok (.aload_n 0, 1) := dd_get dm_X5_run_0 17 rfl
theorem dX5_run_30 : decode cX5_run 30 = .ok (.iconst 1, 1) := dd_get dm_X5_run_0 18 rfl
theorem dX5_run_31 : decode cX5_run 31 = .ok (.iconst 1, 1) := dd_get dm_X5_run_0 19 rfl
theorem dX5_run_32 : decode cX5_run 32 = .ok (.aload_n 0, 1) := dd_get dm_X5_run_0 20 rfl
theorem dX5_run_33 : decode cX5_run 33 = .ok (.getfield 18, 3) := dd_get dm_X5_run_0 21 rfl
theorem dX5_run_36 : decode cX5_run 36 = .ok (.iconst 0, 1) := dd_get dm_X5_run_0 22 rfl
theorem dX5_run_37 : decode cX5_run 37 = .ok (.iaload, 1) := dd_get dm_X5_run_0 23 rfl
theorem dX5_run_38 : decode cX5_run 38 = .ok (.ishl, 1) := dd_get dm_X5_run_0 24 rfl
theorem dX5_run_39 : decode cX5_run 39 = .ok (.iconst 0, 1) := dd_get dm_X5_run_0 25 rfl
theorem dX5_run_40 : decode cX5_run 40 = .ok (.invokevirtual 77, 3) := dd_get dm_X5_run_0 26 rfl
theorem dX5_run_43 : decode cX5_run 43 = .ok (.aload_n 0, 1) := dd_get dm_X5_run_0 27 rfl
theorem dX5_run_44 : decode cX5_run 44 = .ok (.getfield 39, 3) := dd_get dm_X5_run_0 28 rfl
theorem dX5_run_47 : decode cX5_run 47 = .ok (.ldc 38, 2) := dd_get dm_X5_run_0 29 rfl
theorem dX5_run_49 : decode cX5_run 49 = .ok (.if_icmp .eq 7, 3) := dd_get dm_X5_run_0 30 rfl
theorem dX5_run_52 : decode cX5_run 52 = .ok (.iconst 1, 1) := dd_get dm_X5_run_0 31 rfl
theorem dX5_run_53 : decode cX5_run 53 = .ok (.goto 4, 3) := dd_get dm_X5_run_0 32 rfl
theorem dX5_run_56 : decode cX5_run 56 = .ok (.iconst 0, 1) := dd_get dm_X5_run_0 33 rfl
theorem dX5_run_57 : decode cX5_run 57 = .ok (.ireturn, 1) := dd_get dm_X5_run_0 34 rfl
theorem dm_X5_isHungTogether_0 : (([(0, .iconst 1, 1), (1, .istore_n 1, 1), (2, .iload_n 1, 1), (3, .aload_n 0, 1), (4, .getfield 34, 3), (7, .if_icmp .ge 37, 3), (10, .aload_n 0, 1), (11, .getfield 42, 3), (14, .getfield 81, 3), (17, .aload_n 0, 1), (18, .getfield 18, 3), (21, .iconst 0, 1), (22, .iaload, 1), (23, .aaload, 1), (24, .aload_n 0, 1), (25, .getfield 18, 3), (28, .iload_n 1, 1), (29, .iaload, 1), (30, .iaload, 1), (31, .ldc 85, 2), (33, .if_icmp .ne 5, 3), (36, .iconst 0, 1), (37, .ireturn, 1), (38, .iinc 1 1, 3), (41, .goto (-39), 3), (44, .iconst 1, 1), (45, .ireturn, 1)] : List (Nat × Instr × Nat)).all fun q => decide (decode cX5_isHungTogether q.1 = .ok (q.2.1, q.2.2))) = true := by decide +kernel
theorem dX5_isHungTogether_0 : decode cX5_isHungTogether 0 = .ok (.iconst 1, 1) := dd_get dm_X5_isHungTogether_0 0 rfl
theorem dX5_isHungTogether_1 : decode cX5_isHungTogether 1 = .ok (.istore_n 1, 1) := dd_get dm_X5_isHungTogether_0 1 rfl
theorem dX5_isHungTogether_2 : decode cX5_isHungTogether 2 = .ok (.iload_n 1, 1) := dd_get dm_X5_isHungTogether_0 2 rfl
theorem dX5_isHungTogether_3 : decode cX5_isHungTogether 3 = .ok (.aload_n 0, 1) := dd_get dm_X5_isHungTogether_0 3 rfl
theorem dX5_isHungTogether_4 : decode cX5_isHungTogether 4 = .ok (.getfield 34, 3) := dd_get dm_X5_isHungTogether_0 4 rfl
theorem dX5_isHungTogether_7 : decode cX5_isHungTogether 7 = .ok (.if_icmp .ge 37, 3) := dd_get dm_X5_isHungTogether_0 5 rfl
theorem dX5_isHungTogether_10 : decode cX5_isHungTogether 10 = .ok (.aload_n 0, 1) := dd_get dm_X5_isHungTogether_0 6 rfl
theorem dX5_isHungTogether_11 : decode cX5_isHungTogether 11 = .ok (.getfield 42, 3) := dd_get dm_X5_isHungTogether_0 7 rfl
theorem dX5_isHungTogether_14 : decode cX5_isHungTogether 14 = .ok (.getfield 81, 3) := dd_get dm_X5_isHungTogether_0 8 rfl
theorem dX5_isHungTogether_17 : decode cX5_isHungTogether 17 = .ok (.aload_n 0, 1) := dd_get dm_X5_isHungTogether_0 9 rfl
theorem dX5_isHungTogether_18 : decode cX5_isHungTogether 18 = .ok (.getfield 18, 3) := dd_get dm_X5_isHungTogether_0 10 rfl
theorem dX5_isHungTogether_21 : decode cX5_isHungTogether 21 = .ok (.iconst 0, 1) := dd_get dm_X5_isHungTogether_0 11 rfl
theorem dX5_isHungTogether_22 : decode cX5_isHungTogether 22 = .ok (.iaload, 1) := dd_get dm_X5_isHungTogether_0 12 rfl
theorem dX5_isHungTogether_23 : decode cX5_isHungTogether 23 = .ok (.aaload, 1) := dd_get dm_X5_isHungTogether_0 13 rfl
theorem dX5_isHungTogether_24 : decode cX5_isHungTogether 24 = .ok (.aload_n 0, 1) := dd_get dm_X5_isHungTogether_0 14 rfl
theorem dX5_isHungTogether_25 : decode cX5_isHungTogether 25 = .ok (.getfield 18, 3) := dd_get dm_X5_isHungTogether_0 15 rfl
theorem dX5_isHungTogether_28 : decode cX5_isHungTogether 28 = .ok (.iload_n 1, 1) := dd_get dm_X5_isHungTogether_0 16 rfl
theorem dX5_isHungTogether_29 : decode cX5_isHungTogether 29 = .ok (.iaload, 1) := dd_get dm_X5_isHungTogether_0 17 rfl
theorem dX5_isHungTogether_30 : decode cX5_isHungTogether 30 = .ok (.iaload, 1) := dd_get dm_X5_isHungTogether_0 18 rfl
theorem dX5_isHungTogether_31 : decode cX5_isHungTogether 31 = .ok (.ldc 85, 2) := dd_get dm_X5_isHungTogether_0 19 rfl
theorem dX5_isHungTogether_33 : decode cX5_isHungTogether 33 = .ok (.if_icmp .ne 5, 3) := dd_get dm_X5_isHungTogether_0 20 rfl
theorem dX5_isHungTogether_36 : decode cX5_isHungTogether 36 = .ok (.iconst 0, 1) := dd_get dm_X5_isHungTogether_0 21 rfl
theorem dX5_isHungTogether_37 : decode cX5_isHungTogether 37 = .ok (.ireturn, 1) := dd_get dm_X5_isHungTogether_0 22 rfl
theorem dX5_isHungTogether_38 : decode cX5_isHungTogether 38 = .ok (.iinc 1 1, 3) := dd_get dm_X5_isHungTogether_0 23 rfl
theorem dX5_isHungTogether_41 : decode cX5_isHungTogether 41 = .ok (.goto (-39), 3) := dd_get dm_X5_isHungTogether_0 24 rfl
theorem dX5_isHungTogether_44 : decode cX5_isHungTogether 44 = .ok (.iconst 1, 1) := dd_get dm_X5_isHungTogether_0 25 rfl
theorem dX5_isHungTogether_45 : decode cX5_isHungTogether 45 = .ok (.ireturn, 1) := dd_get dm_X5_isHungTogether_0 26 rfl
theorem dm_X5_extend_0 : (([(0, .iload_n 1, 1), (1, .aload_n 0, 1), (2, .getfield 34, 3), (5, .if_icmp .lt 9, 3), (8, .aload_n 0, 1), (9, .iload_n 3, 1), (10, .invokevirtual 86, 3), (13, .return_, 1), (14, .aload_n 0, 1), (15, .getfield 21, 3), (18, .iload_n 1, 1), (19, .iconst 1, 1), (20, .isub, 1), (21, .iaload, 1), (22, .istore 4, 2), (24, .iconst 1, 1), (25, .istore 5, 2), (27, .iload 5, 2), (29, .aload_n 0, 1), (30, .getfield 34, 3), (33, .if_icmp .ge 106, 3), (36, .aload_n 0, 1), (37, .getfield 18, 3), (40, .iload 5, 2), (42, .iaload, 1), (43, .istore 6, 2), (45, .iload_n 2, 1), (46, .iload 6, 2), (48, .invokestatic 90, 3), (51, .ifCond .ne 82, 3), (54, .aload_n 0, 1), (55, .iload_n 1, 1), (56, .iload 4, 2), (58, .iload 6, 2), (60, .invokevirtual 94, 3), (63, .ifCond .eq 70, 3), (66, .iload_n 3, 1), (67, .aload_n 0, 1), (68, .getfield 42, 3), (71, .getfield 81, 3), (74, .iload 4, 2), (76, .aaload, 1), (77, .iload 6, 2), (79, .iaload, 1), (80, .iadd, 1), (81, .istore 7, 2), (83, .iload 7, 2), (85, .aload_n 0, 1), (86, .getfield 42, 3), (89, .getfield 81, 3), (92, .iload 6, 2), (94, .aaload, 1), (95, .aload_n 0, 1), (96, .getfield 21, 3), (99, .iconst 0, 1), (100, .iaload, 1), (101, .iaload, 1), (102, .iadd, 1), (103, .aload_n 0, 1), (104, .getfield 39, 3)] : List (Nat × Instr × Nat)).all fun q => decide (decode cX5_extend q.1 = .ok (q.2.1, q.2.2))) = true := by decide +kernel
theorem dX5_extend_0 : decode cX5_extend 0 = .ok (.iload_n 1, 1) := dd_get dm_X5_extend_0 0 rfl
theorem dX5_extend_1 : decode cX5_extend 1 = .ok (.aload_n 0, 1) := dd_get dm_X5_extend_0 1 rfl
theorem dX5_extend_2 : decode cX5_extend 2 = .ok (.getfield 34, 3) := dd_get dm_X5_extend_0 2 rfl
theorem dX5_extend_5 : decode cX5_extend 5 = .ok (.if_icmp .lt 9, 3) := dd_get dm_X5_extend_0 3 rfl
theorem dX5_extend_8 : decode cX5_extend 8 = .ok (.aload_n 0, 1) := dd_get dm_X5_extend_0 4 rfl
theorem dX5_extend_9 : decode cX5_extend 9 = .ok (.iload_n 3, 1) := dd_get dm_X5_extend_0 5 rfl
theorem dX5_extend_10 : decode cX5_extend 10 = .ok (.invokevirtual 86, 3) := dd_get dm_X5_extend_0 6 rfl
theorem dX5_extend_13 : decode cX5_extend 13 = .ok (.return_, 1) := dd_get dm_X5_extend_0 7 rfl
theorem dX5_extend_14 : decode cX5_extend 14 = .ok (.aload_n 0, 1) := dd_get dm_X5_extend_0 8 rfl
theorem dX5_extend_15 : decode cX5_extend 15 = .ok (.getfield 21, 3) := dd_get dm_X5_extend_0 9 rfl
theorem dX5_extend_18 : decode cX5_extend 18 = .ok (.iload_n 1, 1) := dd_get dm_X5_extend_0 10 rfl
theorem dX5_extend_19 : decode cX5_extend 19 = .ok (.iconst 1, 1) := dd_get dm_X5_extend_0 11 rfl
theorem dX5_extend_20 : decode cX5_extend 20 = .ok (.isub, 1) := dd_get dm_X5_extend_0 12 rfl
theorem dX5_extend_21 : decode cX5_extend 21 = .ok (.iaload, 1) := dd_get dm_X5_extend_0 13 rfl
theorem dX5_extend_22 : decode cX5_extend 22 = .ok (.istore 4, 2) := dd_get dm_X5_extend_0 14 rfl
theorem dX5_extend_24 : decode cX5_extend 24 = .ok (.iconst 1, 1) := dd_get dm_X5_extend_0 15 rfl
theorem dX5_extend_25 : decode cX5_extend 25 = .ok (.istore 5, 2) := dd_get dm_X5_extend_0 16 rfl
theorem dX5_extend_27 : decode cX5_extend 27 = .ok (.iload 5, 2) := dd_get dm_X5_extend_0 17 rfl
theorem dX5_extend_29 : decode cX5_extend 29 = .ok (.aload_n 0, 1) := dd_get dm_X5_extend_0 18 rfl
theorem dX5_extend_30 : decode cX5_extend 30 = .ok (.getfield 34, 3) := dd_get dm_X5_extend_0 19 rfl
theorem dX5_extend_33 : decode cX5_extend 33 = .ok (.if_icmp .ge 106, 3) := dd_get dm_X5_extend_0 20 rfl
theorem dX5_extend_36 : decode cX5_extend 36 = .ok (.aload_n 0, 1) := dd_get dm_X5_extend_0 21 rfl
theorem dX5_extend_37 : decode cX5_extend 37 = .ok (.getfield 18, 3) := dd_get dm_X5_extend_0 22 rfl
theorem dX5_extend_40 : decode cX5_extend 40 = .ok (.iload 5, 2) := dd_get dm_X5_extend_0 23 rfl
theorem dX5_extend_42 : decode cX5_extend 42 = .ok (.iaload, 1) := dd_get dm_X5_extend_0 24 rfl
theorem dX5_extend_43 : decode cX5_extend 43 = .ok (.istore 6, 2) := dd_get dm_X5_extend_0 25 rfl
theorem dX5_extend_45 : decode cX5_extend 45 = .ok (.iload_n 2, 1) := dd_get dm_X5_extend_0 26 rfl
theorem dX5_extend_46 : decode cX5_extend 46 = .ok (.iload 6, 2) := dd_get dm_X5_extend_0 27 rfl
theorem dX5_extend_48 : decode cX5_extend 48 = .ok (.invokestatic 90, 3) := dd_get dm_X5_extend_0 28 rfl
theorem dX5_extend_51 : decode cX5_extend 51 = .ok (.ifCond .ne 82, 3) := dd_get dm_X5_extend_0 29 rfl
theorem dX5_extend_54 : decode cX5_extend 54 = .ok (.aload_n 0, 1) := dd_get dm_X5_extend_0 30 rfl
theorem dX5_extend_55 : decode cX5_extend 55 = .ok (.iload_n 1, 1) := dd_get dm_X5_extend_0 31 rfl
theorem dX5_extend_56 : decode cX5_extend 56 = .ok (.iload 4, 2) := dd_get dm_X5_extend_0 32 rfl
theorem dX5_extend_58 : decode cX5_extend 58 = .ok (.iload 6, 2) := dd_get dm_X5_extend_0 33 rfl
theorem dX5_extend_60 : decode cX5_extend 60 = .ok (.invokevirtual 94, 3) := dd_get dm_X5_extend_0 34 rfl
theorem dX5_extend_63 : decode cX5_extend 63 = .ok (.ifCond .eq 70, 3) := dd_get dm_X5_extend_0 35 rfl
theorem dX5_extend_66 : decode cX5_extend 66 = .ok (.iload_n 3, 1) := dd_get dm_X5_extend_0 36 rfl
theorem dX5_extend_67 : decode cX5_extend 67 = .ok (.aload_n 0, 1) := dd_get dm_X5_extend_0 37 rfl
theorem dX5_extend_68 : decode cX5_extend 68 = .ok (.getfield 42, 3) := dd_get dm_X5_extend_0 38 rfl
theorem dX5_extend_71 : decode cX5_extend 71 = .ok (.getfield 81, 3) := dd_get dm_X5_extend_0 39 rfl
theorem dX5_extend_74 : decode cX5_extend 74 = .ok (.iload 4, 2) := dd_get dm_X5_extend_0 40 rfl
theorem dX5_extend_76 : decode cX5_extend 76 = .ok (.aaload, 1) := dd_get dm_X5_extend_0 41 rfl
theorem dX5_extend_77 : decode cX5_extend 77 = .ok (.iload 6, 2) := dd_get dm_X5_extend_0 42 rfl
theorem dX5_extend_79 : decode cX5_extend 79 = .ok (.iaload, 1) := dd_get dm_X5_extend_0 43 rfl
theorem dX5_extend_80 : decode cX5_extend 80 = .ok (.iadd, 1) := dd_get dm_X5_extend_0 44 rfl
theorem dX5_extend_81 : decode cX5_extend 81 = .ok (.istore 7, 2) := dd_get dm_X5_extend_0 45 rfl
theorem dX5_extend_83 : decode cX5_extend 83 = .ok (.iload 7, 2) := dd_get dm_X5_extend_0 46 rfl
theorem dX5_extend_85 : decode cX5_extend 85 = .ok (.aload_n 0, 1) := dd_get dm_X5_extend_0 47 rfl
theorem dX5_extend_86 : decode cX5_extend 86 = .ok (.getfield 42, 3) := dd_get dm_X5_extend_0 48 rfl
theorem dX5_extend_89 : decode cX5_extend 89 = .ok (.getfield 81, 3) := dd_get dm_X5_extend_0 49 rfl
theorem dX5_extend_92 : decode cX5_extend 92 = .ok (.iload 6, 2) := dd_get dm_X5_extend_0 50 rfl
theorem dX5_extend_94 : decode cX5_extend 94 = .ok (.aaload, 1) := dd_get dm_X5_extend_0 51 rfl
theorem dX5_extend_95 : decode cX5_extend 95 = .ok (.aload_n 0, 1) := dd_get dm_X5_extend_0 52 rfl
theorem dX5_extend_96 : decode cX5_extend 96 = .ok (.getfield 21, 3) := dd_get dm_X5_extend_0 53 rfl
theorem dX5_extend_99 : decode cX5_extend 99 = .ok (.iconst 0, 1) := dd_get dm_X5_extend_0 54 rfl
theorem dX5_extend_100 : decode cX5_extend 100 = .ok (.iaload, 1) := dd_get dm_X5_extend_0 55 rfl
theorem dX5_extend_101 : decode cX5_extend 101 = .ok (.iaload, 1) := dd_get dm_X5_extend_0 56 rfl
theorem dX5_extend_102 : decode cX5_extend 102 = .ok (.iadd, 1) := dd_get dm_X5_extend_0 57 rfl
theorem dX5_extend_103 : decode cX5_extend 103 = .ok (.aload_n 0, 1) := dd_get dm_X5_extend_0 58 rfl
theorem dX5_extend_104 : decode cX5_extend 104 = .ok (.getfield 39, 3) := dd_get dm_X5_extend_0 59 rfl
theorem dm_X5_extend_1 : (([(107, .if_icmp .ge 26, 3), (110, .aload_n 0, 1), (111, .getfield 21, 3), (114, .iload_n 1, 1), (115, .iload 6, 2), (117, .iastore, 1), (118, .aload_n 0, 1), (119, .iload_n 1, 1), (120, .iconst 1, 1), (121, .iadd, 1), (122, .iload_n 2, 1), (123, .iconst 1, 1), (124, .iload 6, 2), (126, .ishl, 1), (127, .ior, 1), (128, .iload 7, 2), (130, .invokevirtual 77, 3), (133, .iinc 5 1, 3), (136, .goto (-109), 3), (139, .return_, 1)] : List (Nat × Instr × Nat)).all fun q => decide (decode cX5_extend q.1 = .ok (q.2.1, q.2.2))) = true := by decide +kernel
theorem dX5_extend_107 : decode cX5_extend 107 = .ok (.if_icmp .ge 26, 3) := dd_get dm_X5_extend_1 0 rfl
theorem dX5_extend_110 : decode cX5_extend 110 = .ok (.aload_n 0, 1) := dd_get dm_X5_extend_1 1 rfl
theorem dX5_extend_111 : decode cX5_extend 111 = .ok (.getfield 21, 3) := dd_get dm_X5_extend_1 2 rfl
theorem dX5_extend_114 : decode cX5_extend 114 = .ok (.iload_n 1, 1) := dd_get dm_X5_extend_1 3 rfl
theorem dX5_extend_115 : decode cX5_extend 115 = .ok (.iload 6, 2) := dd_get dm_X5_extend_1 4 rfl
theorem dX5_extend_117 : decode cX5_extend 117 = .ok (.iastore, 1) := dd_get dm_X5_extend_1 5 rfl
theorem dX5_extend_118 : decode cX5_extend 118 = .ok (.aload_n 0, 1) := dd_get dm_X5_extend_1 6 rfl
theorem dX5_extend_119 : decode cX5_extend 119 = .ok (.iload_n 1, 1) := dd_get dm_X5_extend_1 7 rfl
theorem dX5_extend_120 : decode cX5_extend 120 = .ok (.iconst 1, 1) := dd_get dm_X5_extend_1 8 rfl
theorem dX5_extend_121 : decode cX5_extend 121 = .ok (.iadd, 1) := dd_get dm_X5_extend_1 9 rfl
theorem dX5_extend_122 : decode cX5_extend 122 = .ok (.iload_n 2, 1) := dd_get dm_X5_extend_1 10 rfl
theorem dX5_extend_123 : decode cX5_extend 123 = .ok (.iconst 1, 1) := dd_get dm_X5_extend_1 11 rfl
theorem dX5_extend_124 : decode cX5_extend 124 = .ok (.iload 6, 2) := dd_get dm_X5_extend_1 12 rfl
theorem dX5_extend_126 : decode cX5_extend 126 = .ok (.ishl, 1) := dd_get dm_X5_extend_1 13 rfl
theorem dX5_extend_127 : decode cX5_extend 127 = .ok (.ior, 1) := dd_get dm_X5_extend_1 14 rfl
theorem dX5_extend_128 : decode cX5_extend 128 = .ok (.iload 7, 2) := dd_get dm_X5_extend_1 15 rfl
theorem dX5_extend_130 : decode cX5_extend 130 = .ok (.invokevirtual 77, 3) := dd_get dm_X5_extend_1 16 rfl
theorem dX5_extend_133 : decode cX5_extend 133 = .ok (.iinc 5 1, 3) := dd_get dm_X5_extend_1 17 rfl
theorem dX5_extend_136 : decode cX5_extend 136 = .ok (.goto (-109), 3) := dd_get dm_X5_extend_1 18 rfl
theorem dX5_extend_139 : decode cX5_extend 139 = .ok (.return_, 1) := dd_get dm_X5_extend_1 19 rfl
theorem dm_X5_mayFollow_0 : (([(0, .aload_n 0, 1), (1, .getfield 15, 3), (4, .iload_n 2, 1), (5, .iaload, 1), (6, .iload_n 3, 1), (7, .invokestatic 90, 3), (10, .ifCond .eq 5, 3), (13, .iconst 0, 1), (14, .ireturn, 1), (15, .iload_n 1, 1), (16, .iconst 2, 1), (17, .if_icmp .lt 20, 3), (20, .aload_n 0, 1), (21, .iload_n 2, 1), (22, .aload_n 0, 1), (23, .getfield 21, 3), (26, .iload_n 1, 1), (27, .iconst 2, 1), (28, .isub, 1), (29, .iaload, 1), (30, .iload_n 3, 1), (31, .invokevirtual 98, 3), (34, .ifCond .eq 7, 3), (37, .iconst 1, 1), (38, .goto 4, 3), (41, .iconst 0, 1), (42, .ireturn, 1)] : List (Nat × Instr × Nat)).all fun q => decide (decode cX5_mayFollow q.1 = .ok (q.2.1, q.2.2))) = true := by decide +kernel
theorem dX5_mayFollow_0 : decode cX5_mayFollow 0 = .ok (.aload_n 0, 1) := dd_get dm_X5_mayFollow_0 0 rfl
theorem dX5_mayFollow_1 : decode cX5_mayFollow 1 = .ok (.getfield 15, 3) := dd_get dm_X5_mayFollow_0 1 rfl
theorem dX5_mayFollow_4 : decode cX5_mayFollow 4 = .ok (.iload_n 2, 1) := dd_get dm_X5_mayFollow_0 2 rfl
theorem dX5_mayFollow_5 : decode cX5_mayFollow 5 = .ok (.iaload, 1) := dd_get dm_X5_mayFollow_0 3 rfl
theorem dX5_mayFollow_6 : decode cX5_mayFollow 6 = .ok (.iload_n 3, 1) := dd_get dm_X5_mayFollow_0 4 rfl
theorem dX5_mayFollow_7 : decode cX5_mayFollow 7 = .ok (.invokestatic 90, 3) := dd_get dm_X5_mayFollow_0 5 rfl
theorem dX5_mayFollow_10 : decode cX5_mayFollow 10 = .ok (.ifCond .eq 5, 3) := dd_get dm_X5_mayFollow_0 6 rfl
theorem dX5_mayFollow_13 : decode cX5_mayFollow 13 = .ok (.iconst 0, 1) := dd_get dm_X5_mayFollow_0 7 rfl
theorem dX5_mayFollow_14 : decode cX5_mayFollow 14 = .ok (.ireturn, 1) := dd_get dm_X5_mayFollow_0 8 rfl
theorem dX5_mayFollow_15 : decode cX5_mayFollow 15 = .ok (.iload_n 1, 1) := dd_get dm_X5_mayFollow_0 9 rfl
theorem dX5_mayFollow_16 : decode cX5_mayFollow 16 = .ok (.iconst 2, 1) := dd_get dm_X5_mayFollow_0 10 rfl
theorem dX5_mayFollow_17 : decode cX5_mayFollow 17 = .ok (.if_icmp .lt 20, 3) := dd_get dm_X5_mayFollow_0 11 rfl
theorem dX5_mayFollow_20 : decode cX5_mayFollow 20 = .ok (.aload_n 0, 1) := dd_get dm_X5_mayFollow_0 12 rfl
theorem dX5_mayFollow_21 : decode cX5_mayFollow 21 = .ok (.iload_n 2, 1) := dd_get dm_X5_mayFollow_0 13 rfl
theorem dX5_mayFollow_22 : decode cX5_mayFollow 22 = .ok (.aload_n 0, 1) := dd_get dm_X5_mayFollow_0 14 rfl
theorem dX5_mayFollow_23 : decode cX5_mayFollow 23 = .ok (.getfield 21, 3) := dd_get dm_X5_mayFollow_0 15 rfl
theorem dX5_mayFollow_26 : decode cX5_mayFollow 26 = .ok (.iload_n 1, 1) := dd_get dm_X5_mayFollow_0 16 rfl
theorem dX5_mayFollow_27 : decode cX5_mayFollow 27 = .ok (.iconst 2, 1) := dd_get dm_X5_mayFollow_0 17 rfl
theorem dX5_mayFollow_28 : decode cX5_mayFollow 28 = .ok (.isub, 1) := dd_get dm_X5_mayFollow_0 18 rfl
theorem dX5_mayFollow_29 : decode cX5_mayFollow 29 = .ok (.iaload, 1) := dd_get dm_X5_mayFollow_0 19 rfl
theorem dX5_mayFollow_30 : decode cX5_mayFollow 30 = .ok (.iload_n 3, 1) := dd_get dm_X5_mayFollow_0 20 rfl
theorem dX5_mayFollow_31 : decode cX5_mayFollow 31 = .ok (.invokevirtual 98, 3) := dd_get dm_X5_mayFollow_0 21 rfl
theorem dX5_mayFollow_34 : decode cX5_mayFollow 34 = .ok (.ifCond .eq 7, 3) := dd_get dm_X5_mayFollow_0 22 rfl
theorem dX5_mayFollow_37 : decode cX5_mayFollow 37 = .ok (.iconst 1, 1) := dd_get dm_X5_mayFollow_0 23 rfl
theorem dX5_mayFollow_38 : decode cX5_mayFollow 38 = .ok (.goto 4, 3) := dd_get dm_X5_mayFollow_0 24 rfl
theorem dX5_mayFollow_41 : decode cX5_mayFollow 41 = .ok (.iconst 0, 1) := dd_get dm_X5_mayFollow_0 25 rfl
theorem dX5_mayFollow_42 : decode cX5_mayFollow 42 = .ok (.ireturn, 1) := dd_get dm_X5_mayFollow_0 26 rfl
theorem dm_X5_isContent_0 : (([(0, .aload_n 0, 1), (1, .getfield 9, 3), (4, .iload_n 1, 1), (5, .iaload, 1), (6, .iconst 1, 1), (7, .iload_n 2, 1), (8, .ishl, 1), (9, .iconst 1, 1), (10, .iload_n 3, 1), (11, .ishl, 1), (12, .ior, 1), (13, .iconst (-1), 1), (14, .ixor, 1), (15, .iand, 1), (16, .ifCond .ne 7, 3), (19, .iconst 1, 1), (20, .goto 4, 3), (23, .iconst 0, 1), (24, .ireturn, 1)] : List (Nat × Instr × Nat)).all fun q => decide (decode cX5_isContent q.1 = .ok (q.2.1, q.2.2))) = true := by decide +kernel
theorem dX5_isContent_0 : decode cX5_isContent 0 = .ok (.aload_n 0, 1) := dd_get dm_X5_isContent_0 0 rfl
theorem dX5_isContent_1 : decode cX5_isContent 1 = .ok (.getfield 9, 3) := dd_get dm_X5_isContent_0 1 rfl
theorem dX5_isContent_4 : decode cX5_isContent 4 = .ok (.iload_n 1, 1) := dd_get dm_X5_isContent_0 2 rfl
theorem dX5_isContent_5 : decode cX5_isContent 5 = .ok (.iaload, 1) := dd_get dm_X5_isContent_0 3 rfl
theorem dX5_isContent_6 : decode cX5_isContent 6 = .ok (.iconst 1, 1) := dd_get dm_X5_isContent_0 4 rfl
theorem dX5_isContent_7 : decode cX5_isContent 7 = .ok (.iload_n 2, 1) := dd_get dm_X5_isContent_0 5 rfl
theorem dX5_isContent_8 : decode cX5_isContent 8 = .ok (.ishl, 1) := dd_get dm_X5_isContent_0 6 rfl
theorem dX5_isContent_9 : decode cX5_isContent 9 = .ok (.iconst 1, 1) := dd_get dm_X5_isContent_0 7 rfl
theorem dX5_isContent_10 : decode cX5_isContent 10 = .ok (.iload_n 3, 1) := dd_get dm_X5_isContent_0 8 rfl
theorem dX5_isContent_11 : decode cX5_isContent 11 = .ok (.ishl, 1) := dd_get dm_X5_isContent_0 9 rfl
theorem dX5_isContent_12 : decode cX5_isContent 12 = .ok (.ior, 1) := dd_get dm_X5_isContent_0 10 rfl
theorem dX5_isContent_13 : decode cX5_isContent 13 = .ok (.iconst (-1), 1) := dd_get dm_X5_isContent_0 11 rfl
theorem dX5_isContent_14 : decode cX5_isContent 14 = .ok (.ixor, 1) := dd_get dm_X5_isContent_0 12 rfl
theorem dX5_isContent_15 : decode cX5_isContent 15 = .ok (.iand, 1) := dd_get dm_X5_isContent_0 13 rfl
theorem dX5_isContent_16 : decode cX5_isContent 16 = .ok (.ifCond .ne 7, 3) := dd_get dm_X5_isContent_0 14 rfl
theorem dX5_isContent_19 : decode cX5_isContent 19 = .ok (.iconst 1, 1) := dd_get dm_X5_isContent_0 15 rfl
theorem dX5_isContent_20 : decode cX5_isContent 20 = .ok (.goto 4, 3) := dd_get dm_X5_isContent_0 16 rfl
theorem dX5_isContent_23 : decode cX5_isContent 23 = .ok (.iconst 0, 1) := dd_get dm_X5_isContent_0 17 rfl
theorem dX5_isContent_24 : decode cX5_isContent 24 = .ok (.ireturn, 1) := dd_get dm_X5_isContent_0 18 rfl
theorem dm_X5_finish_0 : (([(0, .aload_n 0, 1), (1, .getfield 21, 3), (4, .iconst 0, 1), (5, .iaload, 1), (6, .istore_n 2, 1), (7, .aload_n 0, 1), (8, .getfield 21, 3), (11, .aload_n 0, 1), (12, .getfield 34, 3), (15, .iconst 1, 1), (16, .isub, 1), (17, .iaload, 1), (18, .istore_n 3, 1), (19, .iload_n 1, 1), (20, .aload_n 0, 1), (21, .getfield 42, 3), (24, .getfield 81, 3), (27, .iload_n 3, 1), (28, .aaload, 1), (29, .iload_n 2, 1), (30, .iaload, 1), (31, .iadd, 1), (32, .istore 4, 2), (34, .iload 4, 2), (36, .aload_n 0, 1), (37, .getfield 39, 3), (40, .if_icmp .ge 75, 3), (43, .iload_n 3, 1), (44, .aload_n 0, 1), (45, .getfield 21, 3), (48, .iconst 1, 1), (49, .iaload, 1), (50, .if_icmp .lt 65, 3), (53, .aload_n 0, 1), (54, .getfield 15, 3), (57, .iload_n 3, 1), (58, .iaload, 1), (59, .iload_n 2, 1), (60, .invokestatic 90, 3), (63, .ifCond .ne 52, 3), (66, .aload_n 0, 1), (67, .iload_n 3, 1), (68, .aload_n 0, 1), (69, .getfield 21, 3), (72, .aload_n 0, 1), (73, .getfield 34, 3), (76, .iconst 2, 1), (77, .isub, 1), (78, .iaload, 1), (79, .iload_n 2, 1), (80, .invokevirtual 98, 3), (83, .ifCond .eq 32, 3), (86, .aload_n 0, 1), (87, .iload_n 2, 1), (88, .iload_n 3, 1), (89, .aload_n 0, 1), (90, .getfield 21, 3), (93, .iconst 1, 1), (94, .iaload, 1), (95, .invokevirtual 98, 3)] : List (Nat × Instr × Nat)).all fun q => decide (decode cX5_finish q.1 = .ok (q.2.1, q.2.2))) = true := by decide +kernel
theorem dX5_finish_0 : decode cX5_finish 0 = .ok (.aload_n 0, 1) := dd_get dm_X5_finish_0 0 rfl
theorem dX5_finish_1 : decode cX5_finish 1 = .ok (.getfield 21, 3) := dd_get dm_X5_finish_0 1 rfl
theorem dX5_finish_4 : decode cX5_finish 4 = .ok (.iconst 0, 1) := dd_get dm_X5_finish_0 2 rfl
theorem dX5_finish_5 : decode cX5_finish 5 = .ok (.iaload, 1) := dd_get dm_X5_finish_0 3 rfl
theorem dX5_finish_6 : decode cX5_finish 6 = .ok (.istore_n 2, 1) := dd_get dm_X5_finish_0 4 rfl
theorem dX5_finish_7 : decode cX5_finish 7 = .ok (.aload_n 0, 1) := dd_get dm_X5_finish_0 5 rfl
theorem dX5_finish_8 : decode cX5_finish 8 = .ok (.getfield 21, 3) := dd_get dm_X5_finish_0 6 rfl
theorem dX5_finish_11 : decode cX5_finish 11 = .ok (.aload_n 0, 1) := dd_get dm_X5_finish_0 7 rfl
theorem dX5_finish_12 : decode cX5_finish 12 = .ok (.getfield 34, 3) := dd_get dm_X5_finish_0 8 rfl
theorem dX5_finish_15 : decode cX5_finish 15 = .ok (.iconst 1, 1) := dd_get dm_X5_finish_0 9 rfl
theorem dX5_finish_16 : decode cX5_finish 16 = .ok (.isub, 1) := dd_get dm_X5_finish_0 10 rfl
theorem dX5_finish_17 : decode cX5_finish 17 = .ok (.iaload, 1) := dd_get dm_X5_finish_0 11 rfl
theorem dX5_finish_18 : decode cX5_finish 18 = .ok (.istore_n 3, 1) := dd_get dm_X5_finish_0 12 rfl
theorem dX5_finish_19 : decode cX5_finish 19 = .ok (.iload_n 1, 1) := dd_get dm_X5_finish_0 13 rfl
theorem dX5_finish_20 : decode cX5_finish 20 = .ok (.aload_n 0, 1) := dd_get dm_X5_finish_0 14 rfl
theorem dX5_finish_21 : decode cX5_finish 21 = .ok (.getfield 42, 3) := dd_get dm_X5_finish_0 15 rfl
theorem dX5_finish_24 : decode cX5_finish 24 = .ok (.getfield 81, 3) := dd_get dm_X5_finish_0 16 rfl
theorem dX5_finish_27 : decode cX5_finish 27 = .ok (.iload_n 3, 1) := dd_get dm_X5_finish_0 17 rfl
theorem dX5_finish_28 : decode cX5_finish 28 = .ok (.aaload, 1) := dd_get dm_X5_finish_0 18 rfl
theorem dX5_finish_29 : decode cX5_finish 29 = .ok (.iload_n 2, 1) := dd_get dm_X5_finish_0 19 rfl
theorem dX5_finish_30 : decode cX5_finish 30 = .ok (.iaload, 1) := dd_get dm_X5_finish_0 20 rfl
theorem dX5_finish_31 : decode cX5_finish 31 = .ok (.iadd, 1) := dd_get dm_X5_finish_0 21 rfl
theorem dX5_finish_32 : decode cX5_finish 32 = .ok (.istore 4, 2) := dd_get dm_X5_finish_0 22 rfl
theorem dX5_finish_34 : decode cX5_finish 34 = .ok (.iload 4, 2) := dd_get dm_X5_finish_0 23 rfl
theorem dX5_finish_36 : decode cX5_finish 36 = .ok (.aload_n 0, 1) := dd_get dm_X5_finish_0 24 rfl
theorem dX5_finish_37 : decode cX5_finish 37 = .ok (.getfield 39, 3) := dd_get dm_X5_finish_0 25 rfl
theorem dX5_finish_40 : decode cX5_finish 40 = .ok (.if_icmp .ge 75, 3) := dd_get dm_X5_finish_0 26 rfl
theorem dX5_finish_43 : decode cX5_finish 43 = .ok (.iload_n 3, 1) := dd_get dm_X5_finish_0 27 rfl
theorem dX5_finish_44 : decode cX5_finish 44 = .ok (.aload_n 0, 1) := dd_get dm_X5_finish_0 28 rfl
theorem dX5_finish_45 : decode cX5_finish 45 = .ok (.getfield 21, 3) := dd_get dm_X5_finish_0 29 rfl
theorem dX5_finish_48 : decode cX5_finish 48 = .ok (.iconst 1, 1) := dd_get dm_X5_finish_0 30 rfl
theorem dX5_finish_49 : decode cX5_finish 49 = .ok (.iaload, 1) := dd_get dm_X5_finish_0 31 rfl
theorem dX5_finish_50 : decode cX5_finish 50 = .ok (.if_icmp .lt 65, 3) := dd_get dm_X5_finish_0 32 rfl
theorem dX5_finish_53 : decode cX5_finish 53 = .ok (.aload_n 0, 1) := dd_get dm_X5_finish_0 33 rfl
theorem dX5_finish_54 : decode cX5_finish 54 = .ok (.getfield 15, 3) := dd_get dm_X5_finish_0 34 rfl
theorem dX5_finish_57 : decode cX5_finish 57 = .ok (.iload_n 3, 1) := dd_get dm_X5_finish_0 35 rfl
theorem dX5_finish_58 : decode cX5_finish 58 = .ok (.iaload, 1) := dd_get dm_X5_finish_0 36 rfl
theorem dX5_finish_59 : decode cX5_finish 59 = .ok (.iload_n 2, 1) := dd_get dm_X5_finish_0 37 rfl
theorem dX5_finish_60 : decode cX5_finish 60 = .ok (.invokestatic 90, 3) := dd_get dm_X5_finish_0 38 rfl
theorem dX5_finish_63 : decode cX5_finish 63 = .ok (.ifCond .ne 52, 3) := dd_get dm_X5_finish_0 39 rfl
theorem dX5_finish_66 : decode cX5_finish 66 = .ok (.aload_n 0, 1) := dd_get dm_X5_finish_0 40 rfl
theorem dX5_finish_67 : decode cX5_finish 67 = .ok (.iload_n 3, 1) := dd_get dm_X5_finish_0 41 rfl
theorem dX5_finish_68 : decode cX5_finish 68 = .ok (.aload_n 0, 1) := dd_get dm_X5_finish_0 42 rfl
theorem dX5_finish_69 : decode cX5_finish 69 = .ok (.getfield 21, 3) := dd_get dm_X5_finish_0 43 rfl
theorem dX5_finish_72 : decode cX5_finish 72 = .ok (.aload_n 0, 1) := dd_get dm_X5_finish_0 44 rfl
theorem dX5_finish_73 : decode cX5_finish 73 = .ok (.getfield 34, 3) := dd_get dm_X5_finish_0 45 rfl
theorem dX5_finish_76 : decode cX5_finish 76 = .ok (.iconst 2, 1) := dd_get dm_X5_finish_0 46 rfl
theorem dX5_finish_77 : decode cX5_finish 77 = .ok (.isub, 1) := dd_get dm_X5_finish_0 47 rfl
theorem dX5_finish_78 : decode cX5_finish 78 = .ok (.iaload, 1) := dd_get dm_X5_finish_0 48 rfl
theorem dX5_finish_79 : decode cX5_finish 79 = .ok (.iload_n 2, 1) := dd_get dm_X5_finish_0 49 rfl
theorem dX5_finish_80 : decode cX5_finish 80 = .ok (.invokevirtual 98, 3) := dd_get dm_X5_finish_0 50 rfl
theorem dX5_finish_83 : decode cX5_finish 83 = .ok (.ifCond .eq 32, 3) := dd_get dm_X5_finish_0 51 rfl
theorem dX5_finish_86 : decode cX5_finish 86 = .ok (.aload_n 0, 1) := dd_get dm_X5_finish_0 52 rfl
theorem dX5_finish_87 : decode cX5_finish 87 = .ok (.iload_n 2, 1) := dd_get dm_X5_finish_0 53 rfl
theorem dX5_finish_88 : decode cX5_finish 88 = .ok (.iload_n 3, 1) := dd_get dm_X5_finish_0 54 rfl
theorem dX5_finish_89 : decode cX5_finish 89 = .ok (.aload_n 0, 1) := dd_get dm_X5_finish_0 55 rfl
theorem dX5_finish_90 : decode cX5_finish 90 = .ok (.getfield 21, 3) := dd_get dm_X5_finish_0 56 rfl
theorem dX5_finish_93 : decode cX5_finish 93 = .ok (.iconst 1, 1) := dd_get dm_X5_finish_0 57 rfl
theorem dX5_finish_94 : decode cX5_finish 94 = .ok (.iaload, 1) := dd_get dm_X5_finish_0 58 rfl
theorem dX5_finish_95 : decode cX5_finish 95 = .ok (.invokevirtual 98, 3) := dd_get dm_X5_finish_0 59 rfl
theorem dm_X5_finish_1 : (([(98, .ifCond .eq 17, 3), (101, .aload_n 0, 1), (102, .getfield 30, 3), (105, .ifCond .eq 11, 3), (108, .aload_n 0, 1), (109, .invokevirtual 101, 3), (112, .ifCond .eq 4, 3), (115, .return_, 1), (116, .aload_n 0, 1), (117, .iload 4, 2), (119, .putfield 39, 3), (122, .aload_n 0, 1), (123, .getfield 21, 3), (126, .iconst 0, 1), (127, .aload_n 0, 1), (128, .getfield 24, 3), (131, .iconst 0, 1), (132, .aload_n 0, 1), (133, .getfield 34, 3), (136, .invokestatic 54, 3), (139, .return_, 1)] : List (Nat × Instr × Nat)).all fun q => decide (decode cX5_finish q.1 = .ok (q.2.1, q.2.2))) = true := by decide +kernel
theorem dX5_finish_98 : decode cX5_finish 98 = .ok (.ifCond .eq 17, 3) := dd_get dm_X5_finish_1 0 rfl
theorem dX5_finish_101 : decode cX5_finish 101 = .ok (.aload_n 0, 1) := dd_get dm_X5_finish_1 1 rfl
theorem dX5_finish_102 : decode cX5_finish 102 = .ok (.getfield 30, 3) := dd_get dm_X5_finish_1 2 rfl
theorem dX5_finish_105 : decode cX5_finish 105 = .ok (.ifCond .eq 11, 3) := dd_get dm_X5_finish_1 3 rfl
theorem dX5_finish_108 : decode cX5_finish 108 = .ok (.aload_n 0, 1) := dd_get dm_X5_finish_1 4 rfl
theorem dX5_finish_109 : decode cX5_finish 109 = .ok (.invokevirtual 101, 3) := dd_get dm_X5_finish_1 5 rfl
theorem dX5_finish_112 : decode cX5_finish 112 = .ok (.ifCond .eq 4, 3) := dd_get dm_X5_finish_1 6 rfl
theorem dX5_finish_115 : decode cX5_finish 115 = .ok (.return_, 1) := dd_get dm_X5_finish_1 7 rfl
theorem dX5_finish_116 : decode cX5_finish 116 = .ok (.aload_n 0, 1) := dd_get dm_X5_finish_1 8 rfl
theorem dX5_finish_117 : decode cX5_finish 117 = .ok (.iload 4, 2) := dd_get dm_X5_finish_1 9 rfl
theorem dX5_finish_119 : decode cX5_finish 119 = .ok (.putfield 39, 3) := dd_get dm_X5_finish_1 10 rfl
theorem dX5_finish_122 : decode cX5_finish 122 = .ok (.aload_n 0, 1) := dd_get dm_X5_finish_1 11 rfl
theorem dX5_finish_123 : decode cX5_finish 123 = .ok (.getfield 21, 3) := dd_get dm_X5_finish_1 12 rfl
theorem dX5_finish_126 : decode cX5_finish 126 = .ok (.iconst 0, 1) := dd_get dm_X5_finish_1 13 rfl
theorem dX5_finish_127 : decode cX5_finish 127 = .ok (.aload_n 0, 1) := dd_get dm_X5_finish_1 14 rfl
theorem dX5_finish_128 : decode cX5_finish 128 = .ok (.getfield 24, 3) := dd_get dm_X5_finish_1 15 rfl
theorem dX5_finish_131 : decode cX5_finish 131 = .ok (.iconst 0, 1) := dd_get dm_X5_finish_1 16 rfl
theorem dX5_finish_132 : decode cX5_finish 132 = .ok (.aload_n 0, 1) := dd_get dm_X5_finish_1 17 rfl
theorem dX5_finish_133 : decode cX5_finish 133 = .ok (.getfield 34, 3) := dd_get dm_X5_finish_1 18 rfl
theorem dX5_finish_136 : decode cX5_finish 136 = .ok (.invokestatic 54, 3) := dd_get dm_X5_finish_1 19 rfl
theorem dX5_finish_139 : decode cX5_finish 139 = .ok (.return_, 1) := dd_get dm_X5_finish_1 20 rfl
theorem dm_X5_isShunned_0 : (([(0, .iconst 0, 1), (1, .istore_n 1, 1), (2, .iload_n 1, 1), (3, .aload_n 0, 1), (4, .getfield 34, 3), (7, .if_icmp .ge 26, 3), (10, .aload_n 0, 1), (11, .getfield 21, 3), (14, .iload_n 1, 1), (15, .iaload, 1), (16, .aload_n 0, 1), (17, .getfield 27, 3), (20, .iload_n 1, 1), (21, .iaload, 1), (22, .if_icmp .eq 5, 3), (25, .iconst 0, 1), (26, .ireturn, 1), (27, .iinc 1 1, 3), (30, .goto (-28), 3), (33, .iconst 1, 1), (34, .ireturn, 1)] : List (Nat × Instr × Nat)).all fun q => decide (decode cX5_isShunned q.1 = .ok (q.2.1, q.2.2))) = true := by decide +kernel
theorem dX5_isShunned_0 : decode cX5_isShunned 0 = .ok (.iconst 0, 1) := dd_get dm_X5_isShunned_0 0 rfl
theorem dX5_isShunned_1 : decode cX5_isShunned 1 = .ok (.istore_n 1, 1) := dd_get dm_X5_isShunned_0 1 rfl
theorem dX5_isShunned_2 : decode cX5_isShunned 2 = .ok (.iload_n 1, 1) := dd_get dm_X5_isShunned_0 2 rfl
theorem dX5_isShunned_3 : decode cX5_isShunned 3 = .ok (.aload_n 0, 1) := dd_get dm_X5_isShunned_0 3 rfl
theorem dX5_isShunned_4 : decode cX5_isShunned 4 = .ok (.getfield 34, 3) := dd_get dm_X5_isShunned_0 4 rfl
theorem dX5_isShunned_7 : decode cX5_isShunned 7 = .ok (.if_icmp .ge 26, 3) := dd_get dm_X5_isShunned_0 5 rfl
theorem dX5_isShunned_10 : decode cX5_isShunned 10 = .ok (.aload_n 0, 1) := dd_get dm_X5_isShunned_0 6 rfl
theorem dX5_isShunned_11 : decode cX5_isShunned 11 = .ok (.getfield 21, 3) := dd_get dm_X5_isShunned_0 7 rfl
theorem dX5_isShunned_14 : decode cX5_isShunned 14 = .ok (.iload_n 1, 1) := dd_get dm_X5_isShunned_0 8 rfl
theorem dX5_isShunned_15 : decode cX5_isShunned 15 = .ok (.iaload, 1) := dd_get dm_X5_isShunned_0 9 rfl
theorem dX5_isShunned_16 : decode cX5_isShunned 16 = .ok (.aload_n 0, 1) := dd_get dm_X5_isShunned_0 10 rfl
theorem dX5_isShunned_17 : decode cX5_isShunned 17 = .ok (.getfield 27, 3) := dd_get dm_X5_isShunned_0 11 rfl
theorem dX5_isShunned_20 : decode cX5_isShunned 20 = .ok (.iload_n 1, 1) := dd_get dm_X5_isShunned_0 12 rfl
theorem dX5_isShunned_21 : decode cX5_isShunned 21 = .ok (.iaload, 1) := dd_get dm_X5_isShunned_0 13 rfl
theorem dX5_isShunned_22 : decode cX5_isShunned 22 = .ok (.if_icmp .eq 5, 3) := dd_get dm_X5_isShunned_0 14 rfl
theorem dX5_isShunned_25 : decode cX5_isShunned 25 = .ok (.iconst 0, 1) := dd_get dm_X5_isShunned_0 15 rfl
theorem dX5_isShunned_26 : decode cX5_isShunned 26 = .ok (.ireturn, 1) := dd_get dm_X5_isShunned_0 16 rfl
theorem dX5_isShunned_27 : decode cX5_isShunned 27 = .ok (.iinc 1 1, 3) := dd_get dm_X5_isShunned_0 17 rfl
theorem dX5_isShunned_30 : decode cX5_isShunned 30 = .ok (.goto (-28), 3) := dd_get dm_X5_isShunned_0 18 rfl
theorem dX5_isShunned_33 : decode cX5_isShunned 33 = .ok (.iconst 1, 1) := dd_get dm_X5_isShunned_0 19 rfl
theorem dX5_isShunned_34 : decode cX5_isShunned 34 = .ok (.ireturn, 1) := dd_get dm_X5_isShunned_0 20 rfl
theorem dm_X6_init_0 : (([(0, .aload_n 0, 1), (1, .invokespecial 3, 3), (4, .aload_n 0, 1), (5, .bipush 12, 2), (7, .newarray .int, 2), (9, .putfield 9, 3), (12, .aload_n 0, 1), (13, .iconst 0, 1), (14, .putfield 15, 3), (17, .aload_n 0, 1), (18, .aload_n 1, 1), (19, .putfield 19, 3), (22, .return_, 1)] : List (Nat × Instr × Nat)).all fun q => decide (decode cX6_init q.1 = .ok (q.2.1, q.2.2))) = true := by decide +kernel
theorem dX6_init_0 : decode cX6_init 0 = .ok (.aload_n 0, 1) := dd_get dm_X6_init_0 0 rfl
theorem dX6_init_1 : decode cX6_init 1 = .ok (.invokespecial 3, 3) := dd_get dm_X6_init_0 1 rfl
theorem dX6_init_4 : decode cX6_init 4 = .ok (.aload_n 0, 1) := dd_get dm_X6_init_0 2 rfl
theorem dX6_init_5 : decode cX6_init 5 = .ok (.bipush 12, 2) := dd_get dm_X6_init_0 3 rfl
theorem dX6_init_7 : decode cX6_init 7 = .ok (.newarray .int, 2) := dd_get dm_X6_init_0 4 rfl
theorem dX6_init_9 : decode cX6_init 9 = .ok (.putfield 9, 3) := dd_get dm_X6_init_0 5 rfl
theorem dX6_init_12 : decode cX6_init 12 = .ok (.aload_n 0, 1) := dd_get dm_X6_init_0 6 rfl
theorem dX6_init_13 : decode cX6_init 13 = .ok (.iconst 0, 1) := dd_get dm_X6_init_0 7 rfl
theorem dX6_init_14 : decode cX6_init 14 = .ok (.putfield 15, 3) := dd_get dm_X6_init_0 8 rfl
theorem dX6_init_17 : decode cX6_init 17 = .ok (.aload_n 0, 1) := dd_get dm_X6_init_0 9 rfl
theorem dX6_init_18 : decode cX6_init 18 = .ok (.aload_n 1, 1) := dd_get dm_X6_init_0 10 rfl
theorem dX6_init_19 : decode cX6_init 19 = .ok (.putfield 19, 3) := dd_get dm_X6_init_0 11 rfl
theorem dX6_init_22 : decode cX6_init 22 = .ok (.return_, 1) := dd_get dm_X6_init_0 12 rfl
theorem dm_X6_isWhole_0 : (([(0, .aload_n 0, 1), (1, .getfield 15, 3), (4, .iconst 3, 1), (5, .if_icmp .lt 21, 3), (8, .aload_n 0, 1), (9, .getfield 15, 3), (12, .aload_n 0, 1), (13, .getfield 19, 3), (16, .invokevirtual 23, 3), (19, .if_icmp .ne 7, 3), (22, .iconst 1, 1), (23, .goto 4, 3), (26, .iconst 0, 1), (27, .ireturn, 1)] : List (Nat × Instr × Nat)).all fun q => decide (decode cX6_isWhole q.1 = .ok (q.2.1, q.2.2))) = true := by decide +kernel
theorem dX6_isWhole_0 : decode cX6_isWhole 0 = .ok (.aload_n 0, 1) := dd_get dm_X6_isWhole_0 0 rfl
theorem dX6_isWhole_1 : decode cX6_isWhole 1 = .ok (.getfield 15, 3) := dd_get dm_X6_isWhole_0 1 rfl
theorem dX6_isWhole_4 : decode cX6_isWhole 4 = .ok (.iconst 3, 1) := dd_get dm_X6_isWhole_0 2 rfl
theorem dX6_isWhole_5 : decode cX6_isWhole 5 = .ok (.if_icmp .lt 21, 3) := dd_get dm_X6_isWhole_0 3 rfl
theorem dX6_isWhole_8 : decode cX6_isWhole 8 = .ok (.aload_n 0, 1) := dd_get dm_X6_isWhole_0 4 rfl
theorem dX6_isWhole_9 : decode cX6_isWhole 9 = .ok (.getfield 15, 3) := dd_get dm_X6_isWhole_0 5 rfl
theorem dX6_isWhole_12 : decode cX6_isWhole 12 = .ok (.aload_n 0, 1) := dd_get dm_X6_isWhole_0 6 rfl
theorem dX6_isWhole_13 : decode cX6_isWhole 13 = .ok (.getfield 19, 3) := dd_get dm_X6_isWhole_0 7 rfl
theorem dX6_isWhole_16 : decode cX6_isWhole 16 = .ok (.invokevirtual 23, 3) := dd_get dm_X6_isWhole_0 8 rfl
theorem dX6_isWhole_19 : decode cX6_isWhole 19 = .ok (.if_icmp .ne 7, 3) := dd_get dm_X6_isWhole_0 9 rfl
theorem dX6_isWhole_22 : decode cX6_isWhole 22 = .ok (.iconst 1, 1) := dd_get dm_X6_isWhole_0 10 rfl
theorem dX6_isWhole_23 : decode cX6_isWhole 23 = .ok (.goto 4, 3) := dd_get dm_X6_isWhole_0 11 rfl
theorem dX6_isWhole_26 : decode cX6_isWhole 26 = .ok (.iconst 0, 1) := dd_get dm_X6_isWhole_0 12 rfl
theorem dX6_isWhole_27 : decode cX6_isWhole 27 = .ok (.ireturn, 1) := dd_get dm_X6_isWhole_0 13 rfl
theorem dm_X6_holds_0 : (([(0, .iconst 0, 1), (1, .istore_n 2, 1), (2, .iload_n 2, 1), (3, .aload_n 0, 1), (4, .getfield 15, 3), (7, .if_icmp .ge 21, 3), (10, .aload_n 0, 1), (11, .getfield 9, 3), (14, .iload_n 2, 1), (15, .iaload, 1), (16, .iload_n 1, 1), (17, .if_icmp .ne 5, 3), (20, .iconst 1, 1), (21, .ireturn, 1), (22, .iinc 2 1, 3), (25, .goto (-23), 3), (28, .iconst 0, 1), (29, .ireturn, 1)] : List (Nat × Instr × Nat)).all fun q => decide (decode cX6_holds q.1 = .ok (q.2.1, q.2.2))) = true := by decide +kernel
theorem dX6_holds_0 : decode cX6_holds 0 = .ok (.iconst 0, 1) := dd_get dm_X6_holds_0 0 rfl
theorem dX6_holds_1 : decode cX6_holds 1 = .ok (.istore_n 2, 1) := dd_get dm_X6_holds_0 1 rfl
theorem dX6_holds_2 : decode cX6_holds 2 = .ok (.iload_n 2, 1) := dd_get dm_X6_holds_0 2 rfl
theorem dX6_holds_3 : decode cX6_holds 3 = .ok (.aload_n 0, 1) := dd_get dm_X6_holds_0 3 rfl
theorem dX6_holds_4 : decode cX6_holds 4 = .ok (.getfield 15, 3) := dd_get dm_X6_holds_0 4 rfl
theorem dX6_holds_7 : decode cX6_holds 7 = .ok (.if_icmp .ge 21, 3) := dd_get dm_X6_holds_0 5 rfl
theorem dX6_holds_10 : decode cX6_holds 10 = .ok (.aload_n 0, 1) := dd_get dm_X6_holds_0 6 rfl
theorem dX6_holds_11 : decode cX6_holds 11 = .ok (.getfield 9, 3) := dd_get dm_X6_holds_0 7 rfl
theorem dX6_holds_14 : decode cX6_holds 14 = .ok (.iload_n 2, 1) := dd_get dm_X6_holds_0 8 rfl
theorem dX6_holds_15 : decode cX6_holds 15 = .ok (.iaload, 1) := dd_get dm_X6_holds_0 9 rfl
theorem dX6_holds_16 : decode cX6_holds 16 = .ok (.iload_n 1, 1) := dd_get dm_X6_holds_0 10 rfl
theorem dX6_holds_17 : decode cX6_holds 17 = .ok (.if_icmp .ne 5, 3) := dd_get dm_X6_holds_0 11 rfl
theorem dX6_holds_20 : decode cX6_holds 20 = .ok (.iconst 1, 1) := dd_get dm_X6_holds_0 12 rfl
theorem dX6_holds_21 : decode cX6_holds 21 = .ok (.ireturn, 1) := dd_get dm_X6_holds_0 13 rfl
theorem dX6_holds_22 : decode cX6_holds 22 = .ok (.iinc 2 1, 3) := dd_get dm_X6_holds_0 14 rfl
theorem dX6_holds_25 : decode cX6_holds 25 = .ok (.goto (-23), 3) := dd_get dm_X6_holds_0 15 rfl
theorem dX6_holds_28 : decode cX6_holds 28 = .ok (.iconst 0, 1) := dd_get dm_X6_holds_0 16 rfl
theorem dX6_holds_29 : decode cX6_holds 29 = .ok (.ireturn, 1) := dd_get dm_X6_holds_0 17 rfl
theorem dm_X6_append_0 : (([(0, .aload_n 0, 1), (1, .getfield 15, 3), (4, .bipush 12, 2), (6, .if_icmp .ge 23, 3), (9, .aload_n 0, 1), (10, .getfield 9, 3), (13, .aload_n 0, 1), (14, .getfield 15, 3), (17, .iload_n 1, 1), (18, .iastore, 1), (19, .aload_n 0, 1), (20, .dup, 1), (21, .getfield 15, 3), (24, .iconst 1, 1), (25, .iadd, 1), (26, .putfield 15, 3), (29, .aload_n 0, 1), (30, .getfield 15, 3), (33, .ireturn, 1)] : List (Nat × Instr × Nat)).all fun q => decide (decode cX6_append q.1 = .ok (q.2.1, q.2.2))) = true := by decide +kernel
theorem dX6_append_0 : decode cX6_append 0 = .ok (.aload_n 0, 1) := dd_get dm_X6_append_0 0 rfl
theorem dX6_append_1 : decode cX6_append 1 = .ok (.getfield 15, 3) := dd_get dm_X6_append_0 1 rfl
theorem dX6_append_4 : decode cX6_append 4 = .ok (.bipush 12, 2) := dd_get dm_X6_append_0 2 rfl
theorem dX6_append_6 : decode cX6_append 6 = .ok (.if_icmp .ge 23, 3) := dd_get dm_X6_append_0 3 rfl
theorem dX6_append_9 : decode cX6_append 9 = .ok (.aload_n 0, 1) := dd_get dm_X6_append_0 4 rfl
theorem dX6_append_10 : decode cX6_append 10 = .ok (.getfield 9, 3) := dd_get dm_X6_append_0 5 rfl
theorem dX6_append_13 : decode cX6_append 13 = .ok (.aload_n 0, 1) := dd_get dm_X6_append_0 6 rfl
theorem dX6_append_14 : decode cX6_append 14 = .ok (.getfield 15, 3) := dd_get dm_X6_append_0 7 rfl
theorem dX6_append_17 : decode cX6_append 17 = .ok (.iload_n 1, 1) := dd_get dm_X6_append_0 8 rfl
theorem dX6_append_18 : decode cX6_append 18 = .ok (.iastore, 1) := dd_get dm_X6_append_0 9 rfl
theorem dX6_append_19 : decode cX6_append 19 = .ok (.aload_n 0, 1) := dd_get dm_X6_append_0 10 rfl
theorem dX6_append_20 : decode cX6_append 20 = .ok (.dup, 1) := dd_get dm_X6_append_0 11 rfl
theorem dX6_append_21 : decode cX6_append 21 = .ok (.getfield 15, 3) := dd_get dm_X6_append_0 12 rfl
theorem dX6_append_24 : decode cX6_append 24 = .ok (.iconst 1, 1) := dd_get dm_X6_append_0 13 rfl
theorem dX6_append_25 : decode cX6_append 25 = .ok (.iadd, 1) := dd_get dm_X6_append_0 14 rfl
theorem dX6_append_26 : decode cX6_append 26 = .ok (.putfield 15, 3) := dd_get dm_X6_append_0 15 rfl
theorem dX6_append_29 : decode cX6_append 29 = .ok (.aload_n 0, 1) := dd_get dm_X6_append_0 16 rfl
theorem dX6_append_30 : decode cX6_append 30 = .ok (.getfield 15, 3) := dd_get dm_X6_append_0 17 rfl
theorem dX6_append_33 : decode cX6_append 33 = .ok (.ireturn, 1) := dd_get dm_X6_append_0 18 rfl
theorem dm_X6_empty_0 : (([(0, .aload_n 0, 1), (1, .getfield 15, 3), (4, .istore_n 1, 1), (5, .aload_n 0, 1), (6, .iconst 0, 1), (7, .putfield 15, 3), (10, .iload_n 1, 1), (11, .ireturn, 1)] : List (Nat × Instr × Nat)).all fun q => decide (decode cX6_empty q.1 = .ok (q.2.1, q.2.2))) = true := by decide +kernel
theorem dX6_empty_0 : decode cX6_empty 0 = .ok (.aload_n 0, 1) := dd_get dm_X6_empty_0 0 rfl
theorem dX6_empty_1 : decode cX6_empty 1 = .ok (.getfield 15, 3) := dd_get dm_X6_empty_0 1 rfl
theorem dX6_empty_4 : decode cX6_empty 4 = .ok (.istore_n 1, 1) := dd_get dm_X6_empty_0 2 rfl
theorem dX6_empty_5 : decode cX6_empty 5 = .ok (.aload_n 0, 1) := dd_get dm_X6_empty_0 3 rfl
theorem dX6_empty_6 : decode cX6_empty 6 = .ok (.iconst 0, 1) := dd_get dm_X6_empty_0 4 rfl
theorem dX6_empty_7 : decode cX6_empty 7 = .ok (.putfield 15, 3) := dd_get dm_X6_empty_0 5 rfl
theorem dX6_empty_10 : decode cX6_empty 10 = .ok (.iload_n 1, 1) := dd_get dm_X6_empty_0 6 rfl
theorem dX6_empty_11 : decode cX6_empty 11 = .ok (.ireturn, 1) := dd_get dm_X6_empty_0 7 rfl
theorem dm_X6_copyFrom_0 : (([(0, .aload_n 1, 1), (1, .iconst 0, 1), (2, .aload_n 0, 1), (3, .getfield 9, 3), (6, .iconst 0, 1), (7, .iload_n 2, 1), (8, .invokestatic 29, 3), (11, .aload_n 0, 1), (12, .iload_n 2, 1), (13, .putfield 15, 3), (16, .return_, 1)] : List (Nat × Instr × Nat)).all fun q => decide (decode cX6_copyFrom q.1 = .ok (q.2.1, q.2.2))) = true := by decide +kernel
theorem dX6_copyFrom_0 : decode cX6_copyFrom 0 = .ok (.aload_n 1, 1) := dd_get dm_X6_copyFrom_0 0 rfl
theorem dX6_copyFrom_1 : decode cX6_copyFrom 1 = .ok (.iconst 0, 1) := dd_get dm_X6_copyFrom_0 1 rfl
theorem dX6_copyFrom_2 : decode cX6_copyFrom 2 = .ok (.aload_n 0, 1) := dd_get dm_X6_copyFrom_0 2 rfl
theorem dX6_copyFrom_3 : decode cX6_copyFrom 3 = .ok (.getfield 9, 3) := dd_get dm_X6_copyFrom_0 3 rfl
theorem dX6_copyFrom_6 : decode cX6_copyFrom 6 = .ok (.iconst 0, 1) := dd_get dm_X6_copyFrom_0 4 rfl
theorem dX6_copyFrom_7 : decode cX6_copyFrom 7 = .ok (.iload_n 2, 1) := dd_get dm_X6_copyFrom_0 5 rfl
theorem dX6_copyFrom_8 : decode cX6_copyFrom 8 = .ok (.invokestatic 29, 3) := dd_get dm_X6_copyFrom_0 6 rfl
theorem dX6_copyFrom_11 : decode cX6_copyFrom 11 = .ok (.aload_n 0, 1) := dd_get dm_X6_copyFrom_0 7 rfl
theorem dX6_copyFrom_12 : decode cX6_copyFrom 12 = .ok (.iload_n 2, 1) := dd_get dm_X6_copyFrom_0 8 rfl
theorem dX6_copyFrom_13 : decode cX6_copyFrom 13 = .ok (.putfield 15, 3) := dd_get dm_X6_copyFrom_0 9 rfl
theorem dX6_copyFrom_16 : decode cX6_copyFrom 16 = .ok (.return_, 1) := dd_get dm_X6_copyFrom_0 10 rfl
theorem dm_X6_measure_0 : (([(0, .aload_n 0, 1), (1, .getfield 19, 3), (4, .invokevirtual 35, 3), (7, .iconst 0, 1), (8, .istore_n 1, 1), (9, .iconst 0, 1), (10, .istore_n 2, 1), (11, .iload_n 2, 1), (12, .aload_n 0, 1), (13, .getfield 15, 3), (16, .if_icmp .ge 37, 3), (19, .iload_n 1, 1), (20, .aload_n 0, 1), (21, .getfield 19, 3), (24, .getfield 38, 3), (27, .aload_n 0, 1), (28, .getfield 9, 3), (31, .iload_n 2, 1), (32, .iaload, 1), (33, .aaload, 1), (34, .aload_n 0, 1), (35, .getfield 9, 3), (38, .aload_n 0, 1), (39, .iload_n 2, 1), (40, .invokevirtual 42, 3), (43, .iaload, 1), (44, .iaload, 1), (45, .iadd, 1), (46, .istore_n 1, 1), (47, .iinc 2 1, 3), (50, .goto (-39), 3), (53, .iload_n 1, 1), (54, .ireturn, 1)] : List (Nat × Instr × Nat)).all fun q => decide (decode cX6_measure q.1 = .ok (q.2.1, q.2.2))) = true := by decide +kernel
theorem dX6_measure_0 : decode cX6_measure 0 = .ok (.aload_n 0, 1) := dd_get dm_X6_measure_0 0 rfl
theorem dX6_measure_1 : decode cX6_measure 1 = .ok (.getfield 19, 3) := dd_get dm_X6_measure_0 1 rfl
theorem dX6_measure_4 : decode cX6_measure 4 = .ok (.invokevirtual 35, 3) := dd_get dm_X6_measure_0 2 rfl
theorem dX6_measure_7 : decode cX6_measure 7 = .ok (.iconst 0, 1) := dd_get dm_X6_measure_0 3 rfl
theorem dX6_measure_8 : decode cX6_measure 8 = .ok (.istore_n 1, 1) := dd_get dm_X6_measure_0 4 rfl
theorem dX6_measure_9 : decode cX6_measure 9 = .ok (.iconst 0, 1) := dd_get dm_X6_measure_0 5 rfl
theorem dX6_measure_10 : decode cX6_measure 10 = .ok (.istore_n 2, 1) := dd_get dm_X6_measure_0 6 rfl
theorem dX6_measure_11 : decode cX6_measure 11 = .ok (.iload_n 2, 1) := dd_get dm_X6_measure_0 7 rfl
theorem dX6_measure_12 : decode cX6_measure 12 = .ok (.aload_n 0, 1) := dd_get dm_X6_measure_0 8 rfl
theorem dX6_measure_13 : decode cX6_measure 13 = .ok (.getfield 15, 3) := dd_get dm_X6_measure_0 9 rfl
theorem dX6_measure_16 : decode cX6_measure 16 = .ok (.if_icmp .ge 37, 3) := dd_get dm_X6_measure_0 10 rfl
theorem dX6_measure_19 : decode cX6_measure 19 = .ok (.iload_n 1, 1) := dd_get dm_X6_measure_0 11 rfl
theorem dX6_measure_20 : decode cX6_measure 20 = .ok (.aload_n 0, 1) := dd_get dm_X6_measure_0 12 rfl
theorem dX6_measure_21 : decode cX6_measure 21 = .ok (.getfield 19, 3) := dd_get dm_X6_measure_0 13 rfl
theorem dX6_measure_24 : decode cX6_measure 24 = .ok (.getfield 38, 3) := dd_get dm_X6_measure_0 14 rfl
theorem dX6_measure_27 : decode cX6_measure 27 = .ok (.aload_n 0, 1) := dd_get dm_X6_measure_0 15 rfl
theorem dX6_measure_28 : decode cX6_measure 28 = .ok (.getfield 9, 3) := dd_get dm_X6_measure_0 16 rfl
theorem dX6_measure_31 : decode cX6_measure 31 = .ok (.iload_n 2, 1) := dd_get dm_X6_measure_0 17 rfl
theorem dX6_measure_32 : decode cX6_measure 32 = .ok (.iaload, 1) := dd_get dm_X6_measure_0 18 rfl
theorem dX6_measure_33 : decode cX6_measure 33 = .ok (.aaload, 1) := dd_get dm_X6_measure_0 19 rfl
theorem dX6_measure_34 : decode cX6_measure 34 = .ok (.aload_n 0, 1) := dd_get dm_X6_measure_0 20 rfl
theorem dX6_measure_35 : decode cX6_measure 35 = .ok (.getfield 9, 3) := dd_get dm_X6_measure_0 21 rfl
theorem dX6_measure_38 : decode cX6_measure 38 = .ok (.aload_n 0, 1) := dd_get dm_X6_measure_0 22 rfl
theorem dX6_measure_39 : decode cX6_measure 39 = .ok (.iload_n 2, 1) := dd_get dm_X6_measure_0 23 rfl
theorem dX6_measure_40 : decode cX6_measure 40 = .ok (.invokevirtual 42, 3) := dd_get dm_X6_measure_0 24 rfl
theorem dX6_measure_43 : decode cX6_measure 43 = .ok (.iaload, 1) := dd_get dm_X6_measure_0 25 rfl
theorem dX6_measure_44 : decode cX6_measure 44 = .ok (.iaload, 1) := dd_get dm_X6_measure_0 26 rfl
theorem dX6_measure_45 : decode cX6_measure 45 = .ok (.iadd, 1) := dd_get dm_X6_measure_0 27 rfl
theorem dX6_measure_46 : decode cX6_measure 46 = .ok (.istore_n 1, 1) := dd_get dm_X6_measure_0 28 rfl
theorem dX6_measure_47 : decode cX6_measure 47 = .ok (.iinc 2 1, 3) := dd_get dm_X6_measure_0 29 rfl
theorem dX6_measure_50 : decode cX6_measure 50 = .ok (.goto (-39), 3) := dd_get dm_X6_measure_0 30 rfl
theorem dX6_measure_53 : decode cX6_measure 53 = .ok (.iload_n 1, 1) := dd_get dm_X6_measure_0 31 rfl
theorem dX6_measure_54 : decode cX6_measure 54 = .ok (.ireturn, 1) := dd_get dm_X6_measure_0 32 rfl
theorem dm_X6_keepsTwins_0 : (([(0, .aload_n 0, 1), (1, .getfield 19, 3), (4, .invokevirtual 35, 3), (7, .iconst 0, 1), (8, .istore_n 1, 1), (9, .iload_n 1, 1), (10, .aload_n 0, 1), (11, .getfield 15, 3), (14, .if_icmp .ge 58, 3), (17, .iconst 1, 1), (18, .aload_n 0, 1), (19, .getfield 9, 3), (22, .aload_n 0, 1), (23, .iload_n 1, 1), (24, .invokevirtual 46, 3), (27, .iaload, 1), (28, .ishl, 1), (29, .iconst 1, 1), (30, .aload_n 0, 1), (31, .getfield 9, 3), (34, .aload_n 0, 1), (35, .iload_n 1, 1), (36, .invokevirtual 42, 3), (39, .iaload, 1), (40, .ishl, 1), (41, .ior, 1), (42, .istore_n 2, 1), (43, .aload_n 0, 1), (44, .getfield 19, 3), (47, .getfield 49, 3), (50, .aload_n 0, 1), (51, .getfield 9, 3), (54, .iload_n 1, 1), (55, .iaload, 1), (56, .iaload, 1), (57, .iload_n 2, 1), (58, .iconst (-1), 1), (59, .ixor, 1), (60, .iand, 1), (61, .ifCond .eq 5, 3), (64, .iconst 0, 1), (65, .ireturn, 1), (66, .iinc 1 1, 3), (69, .goto (-60), 3), (72, .iconst 1, 1), (73, .ireturn, 1)] : List (Nat × Instr × Nat)).all fun q => decide (decode cX6_keepsTwins q.1 = .ok (q.2.1, q.2.2))) = true := by decide +kernel
theorem dX6_keepsTwins_0 : decode cX6_keepsTwins 0 = .ok (.aload_n 0, 1) := dd_get dm_X6_keepsTwins_0 0 rfl
theorem dX6_keepsTwins_1 : decode cX6_keepsTwins 1 = .ok (.getfield 19, 3) := dd_get dm_X6_keepsTwins_0 1 rfl
theorem dX6_keepsTwins_4 : decode cX6_keepsTwins 4 = .ok (.invokevirtual 35, 3) := dd_get dm_X6_keepsTwins_0 2 rfl
theorem dX6_keepsTwins_7 : decode cX6_keepsTwins 7 = .ok (.iconst 0, 1) := dd_get dm_X6_keepsTwins_0 3 rfl
theorem dX6_keepsTwins_8 : decode cX6_keepsTwins 8 = .ok (.istore_n 1, 1) := dd_get dm_X6_keepsTwins_0 4 rfl
theorem dX6_keepsTwins_9 : decode cX6_keepsTwins 9 = .ok (.iload_n 1, 1) := dd_get dm_X6_keepsTwins_0 5 rfl
theorem dX6_keepsTwins_10 : decode cX6_keepsTwins 10 = .ok (.aload_n 0, 1) := dd_get dm_X6_keepsTwins_0 6 rfl
theorem dX6_keepsTwins_11 : decode cX6_keepsTwins 11 = .ok (.getfield 15, 3) := dd_get dm_X6_keepsTwins_0 7 rfl
theorem dX6_keepsTwins_14 : decode cX6_keepsTwins 14 = .ok (.if_icmp .ge 58, 3) := dd_get dm_X6_keepsTwins_0 8 rfl
theorem dX6_keepsTwins_17 : decode cX6_keepsTwins 17 = .ok (.iconst 1, 1) := dd_get dm_X6_keepsTwins_0 9 rfl
theorem dX6_keepsTwins_18 : decode cX6_keepsTwins 18 = .ok (.aload_n 0, 1) := dd_get dm_X6_keepsTwins_0 10 rfl
theorem dX6_keepsTwins_19 : decode cX6_keepsTwins 19 = .ok (.getfield 9, 3) := dd_get dm_X6_keepsTwins_0 11 rfl
theorem dX6_keepsTwins_22 : decode cX6_keepsTwins 22 = .ok (.aload_n 0, 1) := dd_get dm_X6_keepsTwins_0 12 rfl
theorem dX6_keepsTwins_23 : decode cX6_keepsTwins 23 = .ok (.iload_n 1, 1) := dd_get dm_X6_keepsTwins_0 13 rfl
theorem dX6_keepsTwins_24 : decode cX6_keepsTwins 24 = .ok (.invokevirtual 46, 3) := dd_get dm_X6_keepsTwins_0 14 rfl
theorem dX6_keepsTwins_27 : decode cX6_keepsTwins 27 = .ok (.iaload, 1) := dd_get dm_X6_keepsTwins_0 15 rfl
theorem dX6_keepsTwins_28 : decode cX6_keepsTwins 28 = .ok (.ishl, 1) := dd_get dm_X6_keepsTwins_0 16 rfl
theorem dX6_keepsTwins_29 : decode cX6_keepsTwins 29 = .ok (.iconst 1, 1) := dd_get dm_X6_keepsTwins_0 17 rfl
theorem dX6_keepsTwins_30 : decode cX6_keepsTwins 30 = .ok (.aload_n 0, 1) := dd_get dm_X6_keepsTwins_0 18 rfl
theorem dX6_keepsTwins_31 : decode cX6_keepsTwins 31 = .ok (.getfield 9, 3) := dd_get dm_X6_keepsTwins_0 19 rfl
theorem dX6_keepsTwins_34 : decode cX6_keepsTwins 34 = .ok (.aload_n 0, 1) := dd_get dm_X6_keepsTwins_0 20 rfl
theorem dX6_keepsTwins_35 : decode cX6_keepsTwins 35 = .ok (.iload_n 1, 1) := dd_get dm_X6_keepsTwins_0 21 rfl
theorem dX6_keepsTwins_36 : decode cX6_keepsTwins 36 = .ok (.invokevirtual 42, 3) := dd_get dm_X6_keepsTwins_0 22 rfl
theorem dX6_keepsTwins_39 : decode cX6_keepsTwins 39 = .ok (.iaload, 1) := dd_get dm_X6_keepsTwins_0 23 rfl
theorem dX6_keepsTwins_40 : decode cX6_keepsTwins 40 = .ok (.ishl, 1) := dd_get dm_X6_keepsTwins_0 24 rfl
theorem dX6_keepsTwins_41 : decode cX6_keepsTwins 41 = .ok (.ior, 1) := dd_get dm_X6_keepsTwins_0 25 rfl
theorem dX6_keepsTwins_42 : decode cX6_keepsTwins 42 = .ok (.istore_n 2, 1) := dd_get dm_X6_keepsTwins_0 26 rfl
theorem dX6_keepsTwins_43 : decode cX6_keepsTwins 43 = .ok (.aload_n 0, 1) := dd_get dm_X6_keepsTwins_0 27 rfl
theorem dX6_keepsTwins_44 : decode cX6_keepsTwins 44 = .ok (.getfield 19, 3) := dd_get dm_X6_keepsTwins_0 28 rfl
theorem dX6_keepsTwins_47 : decode cX6_keepsTwins 47 = .ok (.getfield 49, 3) := dd_get dm_X6_keepsTwins_0 29 rfl
theorem dX6_keepsTwins_50 : decode cX6_keepsTwins 50 = .ok (.aload_n 0, 1) := dd_get dm_X6_keepsTwins_0 30 rfl
theorem dX6_keepsTwins_51 : decode cX6_keepsTwins 51 = .ok (.getfield 9, 3) := dd_get dm_X6_keepsTwins_0 31 rfl
theorem dX6_keepsTwins_54 : decode cX6_keepsTwins 54 = .ok (.iload_n 1, 1) := dd_get dm_X6_keepsTwins_0 32 rfl
theorem dX6_keepsTwins_55 : decode cX6_keepsTwins 55 = .ok (.iaload, 1) := dd_get dm_X6_keepsTwins_0 33 rfl
theorem dX6_keepsTwins_56 : decode cX6_keepsTwins 56 = .ok (.iaload, 1) := dd_get dm_X6_keepsTwins_0 34 rfl
theorem dX6_keepsTwins_57 : decode cX6_keepsTwins 57 = .ok (.iload_n 2, 1) := dd_get dm_X6_keepsTwins_0 35 rfl
theorem dX6_keepsTwins_58 : decode cX6_keepsTwins 58 = .ok (.iconst (-1), 1) := dd_get dm_X6_keepsTwins_0 36 rfl
theorem dX6_keepsTwins_59 : decode cX6_keepsTwins 59 = .ok (.ixor, 1) := dd_get dm_X6_keepsTwins_0 37 rfl
theorem dX6_keepsTwins_60 : decode cX6_keepsTwins 60 = .ok (.iand, 1) := dd_get dm_X6_keepsTwins_0 38 rfl
theorem dX6_keepsTwins_61 : decode cX6_keepsTwins 61 = .ok (.ifCond .eq 5, 3) := dd_get dm_X6_keepsTwins_0 39 rfl
theorem dX6_keepsTwins_64 : decode cX6_keepsTwins 64 = .ok (.iconst 0, 1) := dd_get dm_X6_keepsTwins_0 40 rfl
theorem dX6_keepsTwins_65 : decode cX6_keepsTwins 65 = .ok (.ireturn, 1) := dd_get dm_X6_keepsTwins_0 41 rfl
theorem dX6_keepsTwins_66 : decode cX6_keepsTwins 66 = .ok (.iinc 1 1, 3) := dd_get dm_X6_keepsTwins_0 42 rfl
theorem dX6_keepsTwins_69 : decode cX6_keepsTwins 69 = .ok (.goto (-60), 3) := dd_get dm_X6_keepsTwins_0 43 rfl
theorem dX6_keepsTwins_72 : decode cX6_keepsTwins 72 = .ok (.iconst 1, 1) := dd_get dm_X6_keepsTwins_0 44 rfl
theorem dX6_keepsTwins_73 : decode cX6_keepsTwins 73 = .ok (.ireturn, 1) := dd_get dm_X6_keepsTwins_0 45 rfl
theorem dm_X6_reverse_0 : (([(0, .iload_n 1, 1), (1, .istore_n 3, 1), (2, .iload_n 2, 1), (3, .istore 4, 2), (5, .iload_n 3, 1), (6, .iload 4, 2), (8, .if_icmp .ge 42, 3), (11, .aload_n 0, 1), (12, .getfield 9, 3), (15, .iload_n 3, 1), (16, .iaload, 1), (17, .istore 5, 2), (19, .aload_n 0, 1), (20, .getfield 9, 3), (23, .iload_n 3, 1), (24, .aload_n 0, 1), (25, .getfield 9, 3), (28, .iload 4, 2), (30, .iaload, 1), (31, .iastore, 1), (32, .aload_n 0, 1), (33, .getfield 9, 3), (36, .iload 4, 2), (38, .iload 5, 2), (40, .iastore, 1), (41, .iinc 3 1, 3), (44, .iinc 4 (-1), 3), (47, .goto (-42), 3), (50, .return_, 1)] : List (Nat × Instr × Nat)).all fun q => decide (decode cX6_reverse q.1 = .ok (q.2.1, q.2.2))) = true := by decide +kernel
theorem dX6_reverse_0 : decode cX6_reverse 0 = .ok (.iload_n 1, 1) := dd_get dm_X6_reverse_0 0 rfl
theorem dX6_reverse_1 : decode cX6_reverse 1 = .ok (.istore_n 3, 1) := dd_get dm_X6_reverse_0 1 rfl
theorem dX6_reverse_2 : decode cX6_reverse 2 = .ok (.iload_n 2, 1) := dd_get dm_X6_reverse_0 2 rfl
theorem dX6_reverse_3 : decode cX6_reverse 3 = .ok (.istore 4, 2) := dd_get dm_X6_reverse_0 3 rfl
theorem dX6_reverse_5 : decode cX6_reverse 5 = .ok (.iload_n 3, 1) := dd_get dm_X6_reverse_0 4 rfl
theorem dX6_reverse_6 : decode cX6_reverse 6 = .ok (.iload 4, 2) := dd_get dm_X6_reverse_0 5 rfl
theorem dX6_reverse_8 : decode cX6_reverse 8 = .ok (.if_icmp .ge 42, 3) := dd_get dm_X6_reverse_0 6 rfl
theorem dX6_reverse_11 : decode cX6_reverse 11 = .ok (.aload_n 0, 1) := dd_get dm_X6_reverse_0 7 rfl
theorem dX6_reverse_12 : decode cX6_reverse 12 = .ok (.getfield 9, 3) := dd_get dm_X6_reverse_0 8 rfl
theorem dX6_reverse_15 : decode cX6_reverse 15 = .ok (.iload_n 3, 1) := dd_get dm_X6_reverse_0 9 rfl
theorem dX6_reverse_16 : decode cX6_reverse 16 = .ok (.iaload, 1) := dd_get dm_X6_reverse_0 10 rfl
theorem dX6_reverse_17 : decode cX6_reverse 17 = .ok (.istore 5, 2) := dd_get dm_X6_reverse_0 11 rfl
theorem dX6_reverse_19 : decode cX6_reverse 19 = .ok (.aload_n 0, 1) := dd_get dm_X6_reverse_0 12 rfl
theorem dX6_reverse_20 : decode cX6_reverse 20 = .ok (.getfield 9, 3) := dd_get dm_X6_reverse_0 13 rfl
theorem dX6_reverse_23 : decode cX6_reverse 23 = .ok (.iload_n 3, 1) := dd_get dm_X6_reverse_0 14 rfl
theorem dX6_reverse_24 : decode cX6_reverse 24 = .ok (.aload_n 0, 1) := dd_get dm_X6_reverse_0 15 rfl
theorem dX6_reverse_25 : decode cX6_reverse 25 = .ok (.getfield 9, 3) := dd_get dm_X6_reverse_0 16 rfl
theorem dX6_reverse_28 : decode cX6_reverse 28 = .ok (.iload 4, 2) := dd_get dm_X6_reverse_0 17 rfl
theorem dX6_reverse_30 : decode cX6_reverse 30 = .ok (.iaload, 1) := dd_get dm_X6_reverse_0 18 rfl
theorem dX6_reverse_31 : decode cX6_reverse 31 = .ok (.iastore, 1) := dd_get dm_X6_reverse_0 19 rfl
theorem dX6_reverse_32 : decode cX6_reverse 32 = .ok (.aload_n 0, 1) := dd_get dm_X6_reverse_0 20 rfl
theorem dX6_reverse_33 : decode cX6_reverse 33 = .ok (.getfield 9, 3) := dd_get dm_X6_reverse_0 21 rfl
theorem dX6_reverse_36 : decode cX6_reverse 36 = .ok (.iload 4, 2) := dd_get dm_X6_reverse_0 22 rfl
theorem dX6_reverse_38 : decode cX6_reverse 38 = .ok (.iload 5, 2) := dd_get dm_X6_reverse_0 23 rfl
theorem dX6_reverse_40 : decode cX6_reverse 40 = .ok (.iastore, 1) := dd_get dm_X6_reverse_0 24 rfl
theorem dX6_reverse_41 : decode cX6_reverse 41 = .ok (.iinc 3 1, 3) := dd_get dm_X6_reverse_0 25 rfl
theorem dX6_reverse_44 : decode cX6_reverse 44 = .ok (.iinc 4 (-1), 3) := dd_get dm_X6_reverse_0 26 rfl
theorem dX6_reverse_47 : decode cX6_reverse 47 = .ok (.goto (-42), 3) := dd_get dm_X6_reverse_0 27 rfl
theorem dX6_reverse_50 : decode cX6_reverse 50 = .ok (.return_, 1) := dd_get dm_X6_reverse_0 28 rfl
theorem dm_X6_turnFirstShorter_0 : (([(0, .aload_n 0, 1), (1, .invokevirtual 52, 3), (4, .istore_n 1, 1), (5, .iconst 0, 1), (6, .istore_n 2, 1), (7, .iload_n 2, 1), (8, .aload_n 0, 1), (9, .getfield 15, 3), (12, .if_icmp .ge 65, 3), (15, .iload_n 2, 1), (16, .iconst 1, 1), (17, .iadd, 1), (18, .istore_n 3, 1), (19, .iload_n 3, 1), (20, .aload_n 0, 1), (21, .getfield 15, 3), (24, .if_icmp .ge 47, 3), (27, .aload_n 0, 1), (28, .iload_n 2, 1), (29, .iload_n 3, 1), (30, .invokevirtual 56, 3), (33, .ifCond .eq 32, 3), (36, .aload_n 0, 1), (37, .iload_n 2, 1), (38, .iconst 1, 1), (39, .iadd, 1), (40, .iload_n 3, 1), (41, .invokevirtual 60, 3), (44, .iload_n 1, 1), (45, .ifCond .eq 10, 3), (48, .aload_n 0, 1), (49, .invokevirtual 52, 3), (52, .ifCond .eq 5, 3), (55, .iconst 1, 1), (56, .ireturn, 1), (57, .aload_n 0, 1), (58, .iload_n 2, 1), (59, .iconst 1, 1), (60, .iadd, 1), (61, .iload_n 3, 1), (62, .invokevirtual 60, 3), (65, .iinc 3 1, 3), (68, .goto (-49), 3), (71, .iinc 2 1, 3), (74, .goto (-67), 3), (77, .iconst 0, 1), (78, .ireturn, 1)] : List (Nat × Instr × Nat)).all fun q => decide (decode cX6_turnFirstShorter q.1 = .ok (q.2.1, q.2.2))) = true := by decide +kernel
theorem dX6_turnFirstShorter_0 : decode cX6_turnFirstShorter 0 = .ok (.aload_n 0, 1) := dd_get dm_X6_turnFirstShorter_0 0 rfl
theorem dX6_turnFirstShorter_1 : decode cX6_turnFirstShorter 1 = .ok (.invokevirtual 52, 3) := dd_get dm_X6_turnFirstShorter_0 1 rfl
theorem dX6_turnFirstShorter_4 : decode cX6_turnFirstShorter 4 = .ok (.istore_n 1, 1) := dd_get dm_X6_turnFirstShorter_0 2 rfl
theorem dX6_turnFirstShorter_5 : decode cX6_turnFirstShorter 5 = .ok (.iconst 0, 1) := dd_get dm_X6_turnFirstShorter_0 3 rfl
theorem dX6_turnFirstShorter_6 : decode cX6_turnFirstShorter 6 = .ok (.istore_n 2, 1) := dd_get dm_X6_turnFirstShorter_0 4 rfl
theorem dX6_turnFirstShorter_7 : decode cX6_turnFirstShorter 7 = .ok (.iload_n 2, 1) := dd_get dm_X6_turnFirstShorter_0 5 rfl
theorem dX6_turnFirstShorter_8 : decode cX6_turnFirstShorter 8 = .ok (.aload_n 0, 1) := dd_get dm_X6_turnFirstShorter_0 6 rfl
theorem dX6_turnFirstShorter_9 : decode cX6_turnFirstShorter 9 = .ok (.getfield 15, 3) := dd_get dm_X6_turnFirstShorter_0 7 rfl
theorem dX6_turnFirstShorter_12 : decode cX6_turnFirstShorter 12 = .ok (.if_icmp .ge 65, 3) := dd_get dm_X6_turnFirstShorter_0 8 rfl
theorem dX6_turnFirstShorter_15 : decode cX6_turnFirstShorter 15 = .ok (.iload_n 2, 1) := dd_get dm_X6_turnFirstShorter_0 9 rfl
theorem dX6_turnFirstShorter_16 : decode cX6_turnFirstShorter 16 = .ok (.iconst 1, 1) := dd_get dm_X6_turnFirstShorter_0 10 rfl
theorem dX6_turnFirstShorter_17 : decode cX6_turnFirstShorter 17 = .ok (.iadd, 1) := dd_get dm_X6_turnFirstShorter_0 11 rfl
theorem dX6_turnFirstShorter_18 : decode cX6_turnFirstShorter 18 = .ok (.istore_n 3, 1) := dd_get dm_X6_turnFirstShorter_0 12 rfl
theorem dX6_turnFirstShorter_19 : decode cX6_turnFirstShorter 19 = .ok (.iload_n 3, 1) := dd_get dm_X6_turnFirstShorter_0 13 rfl
theorem dX6_turnFirstShorter_20 : decode cX6_turnFirstShorter 20 = .ok (.aload_n 0, 1) := dd_get dm_X6_turnFirstShorter_0 14 rfl
theorem dX6_turnFirstShorter_21 : decode cX6_turnFirstShorter 21 = .ok (.getfield 15, 3) := dd_get dm_X6_turnFirstShorter_0 15 rfl
theorem dX6_turnFirstShorter_24 : decode cX6_turnFirstShorter 24 = .ok (.if_icmp .ge 47, 3) := dd_get dm_X6_turnFirstShorter_0 16 rfl
theorem dX6_turnFirstShorter_27 : decode cX6_turnFirstShorter 27 = .ok (.aload_n 0, 1) := dd_get dm_X6_turnFirstShorter_0 17 rfl
theorem dX6_turnFirstShorter_28 : decode cX6_turnFirstShorter 28 = .ok (.iload_n 2, 1) := dd_get dm_X6_turnFirstShorter_0 18 rfl
theorem dX6_turnFirstShorter_29 : decode cX6_turnFirstShorter 29 = .ok (.iload_n 3, 1) := dd_get dm_X6_turnFirstShorter_0 19 rfl
theorem dX6_turnFirstShorter_30 : decode cX6_turnFirstShorter 30 = .ok (.invokevirtual 56, 3) := dd_get dm_X6_turnFirstShorter_0 20 rfl
theorem dX6_turnFirstShorter_33 : decode cX6_turnFirstShorter 33 = .ok (.ifCond .eq 32, 3) := dd_get dm_X6_turnFirstShorter_0 21 rfl
theorem dX6_turnFirstShorter_36 : decode cX6_turnFirstShorter 36 = .ok (.aload_n 0, 1) := dd_get dm_X6_turnFirstShorter_0 22 rfl
theorem dX6_turnFirstShorter_37 : decode cX6_turnFirstShorter 37 = .ok (.iload_n 2, 1) := dd_get dm_X6_turnFirstShorter_0 23 rfl
theorem dX6_turnFirstShorter_38 : decode cX6_turnFirstShorter 38 = .ok (.iconst 1, 1) := dd_get dm_X6_turnFirstShorter_0 24 rfl
theorem dX6_turnFirstShorter_39 : decode cX6_turnFirstShorter 39 = .ok (.iadd, 1) := dd_get dm_X6_turnFirstShorter_0 25 rfl
theorem dX6_turnFirstShorter_40 : decode cX6_turnFirstShorter 40 = .ok (.iload_n 3, 1) := dd_get dm_X6_turnFirstShorter_0 26 rfl
theorem dX6_turnFirstShorter_41 : decode cX6_turnFirstShorter 41 = .ok (.invokevirtual 60, 3) := dd_get dm_X6_turnFirstShorter_0 27 rfl
theorem dX6_turnFirstShorter_44 : decode cX6_turnFirstShorter 44 = .ok (.iload_n 1, 1) := dd_get dm_X6_turnFirstShorter_0 28 rfl
theorem dX6_turnFirstShorter_45 : decode cX6_turnFirstShorter 45 = .ok (.ifCond .eq 10, 3) := dd_get dm_X6_turnFirstShorter_0 29 rfl
theorem dX6_turnFirstShorter_48 : decode cX6_turnFirstShorter 48 = .ok (.aload_n 0, 1) := dd_get dm_X6_turnFirstShorter_0 30 rfl
theorem dX6_turnFirstShorter_49 : decode cX6_turnFirstShorter 49 = .ok (.invokevirtual 52, 3) := dd_get dm_X6_turnFirstShorter_0 31 rfl
theorem dX6_turnFirstShorter_52 : decode cX6_turnFirstShorter 52 = .ok (.ifCond .eq 5, 3) := dd_get dm_X6_turnFirstShorter_0 32 rfl
theorem dX6_turnFirstShorter_55 : decode cX6_turnFirstShorter 55 = .ok (.iconst 1, 1) := dd_get dm_X6_turnFirstShorter_0 33 rfl
theorem dX6_turnFirstShorter_56 : decode cX6_turnFirstShorter 56 = .ok (.ireturn, 1) := dd_get dm_X6_turnFirstShorter_0 34 rfl
theorem dX6_turnFirstShorter_57 : decode cX6_turnFirstShorter 57 = .ok (.aload_n 0, 1) := dd_get dm_X6_turnFirstShorter_0 35 rfl
theorem dX6_turnFirstShorter_58 : decode cX6_turnFirstShorter 58 = .ok (.iload_n 2, 1) := dd_get dm_X6_turnFirstShorter_0 36 rfl
theorem dX6_turnFirstShorter_59 : decode cX6_turnFirstShorter 59 = .ok (.iconst 1, 1) := dd_get dm_X6_turnFirstShorter_0 37 rfl
theorem dX6_turnFirstShorter_60 : decode cX6_turnFirstShorter 60 = .ok (.iadd, 1) := dd_get dm_X6_turnFirstShorter_0 38 rfl
theorem dX6_turnFirstShorter_61 : decode cX6_turnFirstShorter 61 = .ok (.iload_n 3, 1) := dd_get dm_X6_turnFirstShorter_0 39 rfl
theorem dX6_turnFirstShorter_62 : decode cX6_turnFirstShorter 62 = .ok (.invokevirtual 60, 3) := dd_get dm_X6_turnFirstShorter_0 40 rfl
theorem dX6_turnFirstShorter_65 : decode cX6_turnFirstShorter 65 = .ok (.iinc 3 1, 3) := dd_get dm_X6_turnFirstShorter_0 41 rfl
theorem dX6_turnFirstShorter_68 : decode cX6_turnFirstShorter 68 = .ok (.goto (-49), 3) := dd_get dm_X6_turnFirstShorter_0 42 rfl
theorem dX6_turnFirstShorter_71 : decode cX6_turnFirstShorter 71 = .ok (.iinc 2 1, 3) := dd_get dm_X6_turnFirstShorter_0 43 rfl
theorem dX6_turnFirstShorter_74 : decode cX6_turnFirstShorter 74 = .ok (.goto (-67), 3) := dd_get dm_X6_turnFirstShorter_0 44 rfl
theorem dX6_turnFirstShorter_77 : decode cX6_turnFirstShorter 77 = .ok (.iconst 0, 1) := dd_get dm_X6_turnFirstShorter_0 45 rfl
theorem dX6_turnFirstShorter_78 : decode cX6_turnFirstShorter 78 = .ok (.ireturn, 1) := dd_get dm_X6_turnFirstShorter_0 46 rfl
theorem dm_X6_isShorterTurned_0 : (([(0, .aload_n 0, 1), (1, .getfield 9, 3), (4, .iload_n 1, 1), (5, .iaload, 1), (6, .istore_n 3, 1), (7, .aload_n 0, 1), (8, .getfield 9, 3), (11, .iload_n 1, 1), (12, .iconst 1, 1), (13, .iadd, 1), (14, .iaload, 1), (15, .istore 4, 2), (17, .aload_n 0, 1), (18, .getfield 9, 3), (21, .iload_n 2, 1), (22, .iaload, 1), (23, .istore 5, 2), (25, .aload_n 0, 1), (26, .getfield 9, 3), (29, .aload_n 0, 1), (30, .iload_n 2, 1), (31, .invokevirtual 42, 3), (34, .iaload, 1), (35, .istore 6, 2), (37, .aload_n 0, 1), (38, .getfield 19, 3), (41, .getfield 38, 3), (44, .iload_n 3, 1), (45, .aaload, 1), (46, .iload 5, 2), (48, .iaload, 1), (49, .aload_n 0, 1), (50, .getfield 19, 3), (53, .getfield 38, 3), (56, .iload 4, 2), (58, .aaload, 1), (59, .iload 6, 2), (61, .iaload, 1), (62, .iadd, 1), (63, .aload_n 0, 1), (64, .getfield 19, 3), (67, .getfield 38, 3), (70, .iload_n 3, 1), (71, .aaload, 1), (72, .iload 4, 2), (74, .iaload, 1), (75, .aload_n 0, 1), (76, .getfield 19, 3), (79, .getfield 38, 3), (82, .iload 5, 2), (84, .aaload, 1), (85, .iload 6, 2), (87, .iaload, 1), (88, .iadd, 1), (89, .if_icmp .ge 7, 3), (92, .iconst 1, 1), (93, .goto 4, 3), (96, .iconst 0, 1), (97, .ireturn, 1)] : List (Nat × Instr × Nat)).all fun q => decide (decode cX6_isShorterTurned q.1 = .ok (q.2.1, q.2.2))) = true := by decide +kernel
theorem dX6_isShorterTurned_0 : decode cX6_isShorterTurned 0 = .ok (.aload_n 0, 1) := dd_get dm_X6_isShorterTurned_0 0 rfl
theorem dX6_isShorterTurned_1 : decode cX6_isShorterTurned 1 = .ok (.getfield 9, 3) := dd_get dm_X6_isShorterTurned_0 1 rfl
theorem dX6_isShorterTurned_4 : decode cX6_isShorterTurned 4 = .ok (.iload_n 1, 1) := dd_get dm_X6_isShorterTurned_0 2 rfl
theorem dX6_isShorterTurned_5 : decode cX6_isShorterTurned 5 = .ok (.iaload, 1) := dd_get dm_X6_isShorterTurned_0 3 rfl
theorem dX6_isShorterTurned_6 : decode cX6_isShorterTurned 6 = .ok (.istore_n 3, 1) := dd_get dm_X6_isShorterTurned_0 4 rfl
theorem dX6_isShorterTurned_7 : decode cX6_isShorterTurned 7 = .ok (.aload_n 0, 1) := dd_get dm_X6_isShorterTurned_0 5 rfl
theorem dX6_isShorterTurned_8 : decode cX6_isShorterTurned 8 = .ok (.getfield 9, 3) := dd_get dm_X6_isShorterTurned_0 6 rfl
theorem dX6_isShorterTurned_11 : decode cX6_isShorterTurned 11 = .ok (.iload_n 1, 1) := dd_get dm_X6_isShorterTurned_0 7 rfl
theorem dX6_isShorterTurned_12 : decode cX6_isShorterTurned 12 = .ok (.iconst 1, 1) := dd_get dm_X6_isShorterTurned_0 8 rfl
theorem dX6_isShorterTurned_13 : decode cX6_isShorterTurned 13 = .ok (.iadd, 1) := dd_get dm_X6_isShorterTurned_0 9 rfl
theorem dX6_isShorterTurned_14 : decode cX6_isShorterTurned 14 = .ok (.iaload, 1) := dd_get dm_X6_isShorterTurned_0 10 rfl
theorem dX6_isShorterTurned_15 : decode cX6_isShorterTurned 15 = .ok (.istore 4, 2) := dd_get dm_X6_isShorterTurned_0 11 rfl
theorem dX6_isShorterTurned_17 : decode cX6_isShorterTurned 17 = .ok (.aload_n 0, 1) := dd_get dm_X6_isShorterTurned_0 12 rfl
theorem dX6_isShorterTurned_18 : decode cX6_isShorterTurned 18 = .ok (.getfield 9, 3) := dd_get dm_X6_isShorterTurned_0 13 rfl
theorem dX6_isShorterTurned_21 : decode cX6_isShorterTurned 21 = .ok (.iload_n 2, 1) := dd_get dm_X6_isShorterTurned_0 14 rfl
theorem dX6_isShorterTurned_22 : decode cX6_isShorterTurned 22 = .ok (.iaload, 1) := dd_get dm_X6_isShorterTurned_0 15 rfl
theorem dX6_isShorterTurned_23 : decode cX6_isShorterTurned 23 = .ok (.istore 5, 2) := dd_get dm_X6_isShorterTurned_0 16 rfl
theorem dX6_isShorterTurned_25 : decode cX6_isShorterTurned 25 = .ok (.aload_n 0, 1) := dd_get dm_X6_isShorterTurned_0 17 rfl
theorem dX6_isShorterTurned_26 : decode cX6_isShorterTurned 26 = .ok (.getfield 9, 3) := dd_get dm_X6_isShorterTurned_0 18 rfl
theorem dX6_isShorterTurned_29 : decode cX6_isShorterTurned 29 = .ok (.aload_n 0, 1) := dd_get dm_X6_isShorterTurned_0 19 rfl
theorem dX6_isShorterTurned_30 : decode cX6_isShorterTurned 30 = .ok (.iload_n 2, 1) := dd_get dm_X6_isShorterTurned_0 20 rfl
theorem dX6_isShorterTurned_31 : decode cX6_isShorterTurned 31 = .ok (.invokevirtual 42, 3) := dd_get dm_X6_isShorterTurned_0 21 rfl
theorem dX6_isShorterTurned_34 : decode cX6_isShorterTurned 34 = .ok (.iaload, 1) := dd_get dm_X6_isShorterTurned_0 22 rfl
theorem dX6_isShorterTurned_35 : decode cX6_isShorterTurned 35 = .ok (.istore 6, 2) := dd_get dm_X6_isShorterTurned_0 23 rfl
theorem dX6_isShorterTurned_37 : decode cX6_isShorterTurned 37 = .ok (.aload_n 0, 1) := dd_get dm_X6_isShorterTurned_0 24 rfl
theorem dX6_isShorterTurned_38 : decode cX6_isShorterTurned 38 = .ok (.getfield 19, 3) := dd_get dm_X6_isShorterTurned_0 25 rfl
theorem dX6_isShorterTurned_41 : decode cX6_isShorterTurned 41 = .ok (.getfield 38, 3) := dd_get dm_X6_isShorterTurned_0 26 rfl
theorem dX6_isShorterTurned_44 : decode cX6_isShorterTurned 44 = .ok (.iload_n 3, 1) := dd_get dm_X6_isShorterTurned_0 27 rfl
theorem dX6_isShorterTurned_45 : decode cX6_isShorterTurned 45 = .ok (.aaload, 1) := dd_get dm_X6_isShorterTurned_0 28 rfl
theorem dX6_isShorterTurned_46 : decode cX6_isShorterTurned 46 = .ok (.iload 5, 2) := dd_get dm_X6_isShorterTurned_0 29 rfl
theorem dX6_isShorterTurned_48 : decode cX6_isShorterTurned 48 = .ok (.iaload, 1) := dd_get dm_X6_isShorterTurned_0 30 rfl
theorem dX6_isShorterTurned_49 : decode cX6_isShorterTurned 49 = .ok (.aload_n 0, 1) := dd_get dm_X6_isShorterTurned_0 31 rfl
theorem dX6_isShorterTurned_50 : decode cX6_isShorterTurned 50 = .ok (.getfield 19, 3) := dd_get dm_X6_isShorterTurned_0 32 rfl
theorem dX6_isShorterTurned_53 : decode cX6_isShorterTurned 53 = .ok (.getfield 38, 3) := dd_get dm_X6_isShorterTurned_0 33 rfl
theorem dX6_isShorterTurned_56 : decode cX6_isShorterTurned 56 = .ok (.iload 4, 2) := dd_get dm_X6_isShorterTurned_0 34 rfl
theorem dX6_isShorterTurned_58 : decode cX6_isShorterTurned 58 = .ok (.aaload, 1) := dd_get dm_X6_isShorterTurned_0 35 rfl
theorem dX6_isShorterTurned_59 : decode cX6_isShorterTurned 59 = .ok (.iload 6, 2) := dd_get dm_X6_isShorterTurned_0 36 rfl
theorem dX6_isShorterTurned_61 : decode cX6_isShorterTurned 61 = .ok (.iaload, 1) := dd_get dm_X6_isShorterTurned_0 37 rfl
theorem dX6_isShorterTurned_62 : decode cX6_isShorterTurned 62 = .ok (.iadd, 1) := dd_get dm_X6_isShorterTurned_0 38 rfl
theorem dX6_isShorterTurned_63 : decode cX6_isShorterTurned 63 = .ok (.aload_n 0, 1) := dd_get dm_X6_isShorterTurned_0 39 rfl
theorem dX6_isShorterTurned_64 : decode cX6_isShorterTurned 64 = .ok (.getfield 19, 3) := dd_get dm_X6_isShorterTurned_0 40 rfl
theorem dX6_isShorterTurned_67 : decode cX6_isShorterTurned 67 = .ok (.getfield 38, 3) := dd_get dm_X6_isShorterTurned_0 41 rfl
theorem dX6_isShorterTurned_70 : decode cX6_isShorterTurned 70 = .ok (.iload_n 3, 1) := dd_get dm_X6_isShorterTurned_0 42 rfl
theorem dX6_isShorterTurned_71 : decode cX6_isShorterTurned 71 = .ok (.aaload, 1) := dd_get dm_X6_isShorterTurned_0 43 rfl
theorem dX6_isShorterTurned_72 : decode cX6_isShorterTurned 72 = .ok (.iload 4, 2) := dd_get dm_X6_isShorterTurned_0 44 rfl
theorem dX6_isShorterTurned_74 : decode cX6_isShorterTurned 74 = .ok (.iaload, 1) := dd_get dm_X6_isShorterTurned_0 45 rfl
theorem dX6_isShorterTurned_75 : decode cX6_isShorterTurned 75 = .ok (.aload_n 0, 1) := dd_get dm_X6_isShorterTurned_0 46 rfl
theorem dX6_isShorterTurned_76 : decode cX6_isShorterTurned 76 = .ok (.getfield 19, 3) := dd_get dm_X6_isShorterTurned_0 47 rfl
theorem dX6_isShorterTurned_79 : decode cX6_isShorterTurned 79 = .ok (.getfield 38, 3) := dd_get dm_X6_isShorterTurned_0 48 rfl
theorem dX6_isShorterTurned_82 : decode cX6_isShorterTurned 82 = .ok (.iload 5, 2) := dd_get dm_X6_isShorterTurned_0 49 rfl
theorem dX6_isShorterTurned_84 : decode cX6_isShorterTurned 84 = .ok (.aaload, 1) := dd_get dm_X6_isShorterTurned_0 50 rfl
theorem dX6_isShorterTurned_85 : decode cX6_isShorterTurned 85 = .ok (.iload 6, 2) := dd_get dm_X6_isShorterTurned_0 51 rfl
theorem dX6_isShorterTurned_87 : decode cX6_isShorterTurned 87 = .ok (.iaload, 1) := dd_get dm_X6_isShorterTurned_0 52 rfl
theorem dX6_isShorterTurned_88 : decode cX6_isShorterTurned 88 = .ok (.iadd, 1) := dd_get dm_X6_isShorterTurned_0 53 rfl
theorem dX6_isShorterTurned_89 : decode cX6_isShorterTurned 89 = .ok (.if_icmp .ge 7, 3) := dd_get dm_X6_isShorterTurned_0 54 rfl
theorem dX6_isShorterTurned_92 : decode cX6_isShorterTurned 92 = .ok (.iconst 1, 1) := dd_get dm_X6_isShorterTurned_0 55 rfl
theorem dX6_isShorterTurned_93 : decode cX6_isShorterTurned 93 = .ok (.goto 4, 3) := dd_get dm_X6_isShorterTurned_0 56 rfl
theorem dX6_isShorterTurned_96 : decode cX6_isShorterTurned 96 = .ok (.iconst 0, 1) := dd_get dm_X6_isShorterTurned_0 57 rfl
theorem dX6_isShorterTurned_97 : decode cX6_isShorterTurned 97 = .ok (.ireturn, 1) := dd_get dm_X6_isShorterTurned_0 58 rfl
theorem dm_X6_writeOut_0 : (([(0, .iconst 0, 1), (1, .istore_n 2, 1), (2, .iconst 1, 1), (3, .istore_n 3, 1), (4, .iload_n 3, 1), (5, .aload_n 0, 1), (6, .getfield 15, 3), (9, .if_icmp .ge 26, 3), (12, .aload_n 0, 1), (13, .getfield 9, 3), (16, .iload_n 3, 1), (17, .iaload, 1), (18, .aload_n 0, 1), (19, .getfield 9, 3), (22, .iload_n 2, 1), (23, .iaload, 1), (24, .if_icmp .ge 5, 3), (27, .iload_n 3, 1), (28, .istore_n 2, 1), (29, .iinc 3 1, 3), (32, .goto (-28), 3), (35, .aload_n 0, 1), (36, .getfield 9, 3), (39, .aload_n 0, 1), (40, .iload_n 2, 1), (41, .invokevirtual 42, 3), (44, .iaload, 1), (45, .aload_n 0, 1), (46, .getfield 9, 3), (49, .aload_n 0, 1), (50, .iload_n 2, 1), (51, .invokevirtual 46, 3), (54, .iaload, 1), (55, .if_icmp .ge 7, 3), (58, .iconst 1, 1), (59, .goto 4, 3), (62, .iconst 0, 1), (63, .istore_n 3, 1), (64, .iload_n 2, 1), (65, .istore 4, 2), (67, .iconst 0, 1), (68, .istore 5, 2), (70, .iload 5, 2), (72, .aload_n 0, 1), (73, .getfield 15, 3), (76, .if_icmp .ge 48, 3), (79, .iload 5, 2), (81, .aload_n 1, 1), (82, .arraylength, 1), (83, .if_icmp .ge 41, 3), (86, .aload_n 1, 1), (87, .iload 5, 2), (89, .aload_n 0, 1), (90, .getfield 9, 3), (93, .iload 4, 2), (95, .iaload, 1), (96, .iastore, 1), (97, .iload_n 3, 1), (98, .ifCond .eq 12, 3), (101, .aload_n 0, 1)] : List (Nat × Instr × Nat)).all fun q => decide (decode cX6_writeOut q.1 = .ok (q.2.1, q.2.2))) = true := by decide +kernel
theorem dX6_writeOut_0 : decode cX6_writeOut 0 = .ok (.iconst 0, 1) := dd_get dm_X6_writeOut_0 0 rfl
theorem dX6_writeOut_1 : decode cX6_writeOut 1 = .ok (.istore_n 2, 1) := dd_get dm_X6_writeOut_0 1 rfl
theorem dX6_writeOut_2 : decode cX6_writeOut 2 = .ok (.iconst 1, 1) := dd_get dm_X6_writeOut_0 2 rfl
theorem dX6_writeOut_3 : decode cX6_writeOut 3 = .ok (.istore_n 3, 1) := dd_get dm_X6_writeOut_0 3 rfl
theorem dX6_writeOut_4 : decode cX6_writeOut 4 = .ok (.iload_n 3, 1) := dd_get dm_X6_writeOut_0 4 rfl
theorem dX6_writeOut_5 : decode cX6_writeOut 5 = .ok (.aload_n 0, 1) := dd_get dm_X6_writeOut_0 5 rfl
theorem dX6_writeOut_6 : decode cX6_writeOut 6 = .ok (.getfield 15, 3) := dd_get dm_X6_writeOut_0 6 rfl
theorem dX6_writeOut_9 : decode cX6_writeOut 9 = .ok (.if_icmp .ge 26, 3) := dd_get dm_X6_writeOut_0 7 rfl
theorem dX6_writeOut_12 : decode cX6_writeOut 12 = .ok (.aload_n 0, 1) := dd_get dm_X6_writeOut_0 8 rfl
theorem dX6_writeOut_13 : decode cX6_writeOut 13 = .ok (.getfield 9, 3) := dd_get dm_X6_writeOut_0 9 rfl
theorem dX6_writeOut_16 : decode cX6_writeOut 16 = .ok (.iload_n 3, 1) := dd_get dm_X6_writeOut_0 10 rfl
theorem dX6_writeOut_17 : decode cX6_writeOut 17 = .ok (.iaload, 1) := dd_get dm_X6_writeOut_0 11 rfl
theorem dX6_writeOut_18 : decode cX6_writeOut 18 = .ok (.aload_n 0, 1) := dd_get dm_X6_writeOut_0 12 rfl
theorem dX6_writeOut_19 : decode cX6_writeOut 19 = .ok (.getfield 9, 3) := dd_get dm_X6_writeOut_0 13 rfl
theorem dX6_writeOut_22 : decode cX6_writeOut 22 = .ok (.iload_n 2, 1) := dd_get dm_X6_writeOut_0 14 rfl
theorem dX6_writeOut_23 : decode cX6_writeOut 23 = .ok (.iaload, 1) := dd_get dm_X6_writeOut_0 15 rfl
theorem dX6_writeOut_24 : decode cX6_writeOut 24 = .ok (.if_icmp .ge 5, 3) := dd_get dm_X6_writeOut_0 16 rfl
theorem dX6_writeOut_27 : decode cX6_writeOut 27 = .ok (.iload_n 3, 1) := dd_get dm_X6_writeOut_0 17 rfl
theorem dX6_writeOut_28 : decode cX6_writeOut 28 = .ok (.istore_n 2, 1) := dd_get dm_X6_writeOut_0 18 rfl
theorem dX6_writeOut_29 : decode cX6_writeOut 29 = .ok (.iinc 3 1, 3) := dd_get dm_X6_writeOut_0 19 rfl
theorem dX6_writeOut_32 : decode cX6_writeOut 32 = .ok (.goto (-28), 3) := dd_get dm_X6_writeOut_0 20 rfl
theorem dX6_writeOut_35 : decode cX6_writeOut 35 = .ok (.aload_n 0, 1) := dd_get dm_X6_writeOut_0 21 rfl
theorem dX6_writeOut_36 : decode cX6_writeOut 36 = .ok (.getfield 9, 3) := dd_get dm_X6_writeOut_0 22 rfl
theorem dX6_writeOut_39 : decode cX6_writeOut 39 = .ok (.aload_n 0, 1) := dd_get dm_X6_writeOut_0 23 rfl
theorem dX6_writeOut_40 : decode cX6_writeOut 40 = .ok (.iload_n 2, 1) := dd_get dm_X6_writeOut_0 24 rfl
theorem dX6_writeOut_41 : decode cX6_writeOut 41 = .ok (.invokevirtual 42, 3) := dd_get dm_X6_writeOut_0 25 rfl
theorem dX6_writeOut_44 : decode cX6_writeOut 44 = .ok (.iaload, 1) := dd_get dm_X6_writeOut_0 26 rfl
theorem dX6_writeOut_45 : decode cX6_writeOut 45 = .ok (.aload_n 0, 1) := dd_get dm_X6_writeOut_0 27 rfl
theorem dX6_writeOut_46 : decode cX6_writeOut 46 = .ok (.getfield 9, 3) := dd_get dm_X6_writeOut_0 28 rfl
theorem dX6_writeOut_49 : decode cX6_writeOut 49 = .ok (.aload_n 0, 1) := dd_get dm_X6_writeOut_0 29 rfl
theorem dX6_writeOut_50 : decode cX6_writeOut 50 = .ok (.iload_n 2, 1) := dd_get dm_X6_writeOut_0 30 rfl
theorem dX6_writeOut_51 : decode cX6_writeOut 51 = .ok (.invokevirtual 46, 3) := dd_get dm_X6_writeOut_0 31 rfl
theorem dX6_writeOut_54 : decode cX6_writeOut 54 = .ok (.iaload, 1) := dd_get dm_X6_writeOut_0 32 rfl
theorem dX6_writeOut_55 : decode cX6_writeOut 55 = .ok (.if_icmp .ge 7, 3) := dd_get dm_X6_writeOut_0 33 rfl
theorem dX6_writeOut_58 : decode cX6_writeOut 58 = .ok (.iconst 1, 1) := dd_get dm_X6_writeOut_0 34 rfl
theorem dX6_writeOut_59 : decode cX6_writeOut 59 = .ok (.goto 4, 3) := dd_get dm_X6_writeOut_0 35 rfl
theorem dX6_writeOut_62 : decode cX6_writeOut 62 = .ok (.iconst 0, 1) := dd_get dm_X6_writeOut_0 36 rfl
theorem dX6_writeOut_63 : decode cX6_writeOut 63 = .ok (.istore_n 3, 1) := dd_get dm_X6_writeOut_0 37 rfl
theorem dX6_writeOut_64 : decode cX6_writeOut 64 = .ok (.iload_n 2, 1) := dd_get dm_X6_writeOut_0 38 rfl
theorem dX6_writeOut_65 : decode cX6_writeOut 65 = .ok (.istore 4, 2) := dd_get dm_X6_writeOut_0 39 rfl
theorem dX6_writeOut_67 : decode cX6_writeOut 67 = .ok (.iconst 0, 1) := dd_get dm_X6_writeOut_0 40 rfl
theorem dX6_writeOut_68 : decode cX6_writeOut 68 = .ok (.istore 5, 2) := dd_get dm_X6_writeOut_0 41 rfl
theorem dX6_writeOut_70 : decode cX6_writeOut 70 = .ok (.iload 5, 2) := dd_get dm_X6_writeOut_0 42 rfl
theorem dX6_writeOut_72 : decode cX6_writeOut 72 = .ok (.aload_n 0, 1) := dd_get dm_X6_writeOut_0 43 rfl
theorem dX6_writeOut_73 : decode cX6_writeOut 73 = .ok (.getfield 15, 3) := dd_get dm_X6_writeOut_0 44 rfl
theorem dX6_writeOut_76 : decode cX6_writeOut 76 = .ok (.if_icmp .ge 48, 3) := dd_get dm_X6_writeOut_0 45 rfl
theorem dX6_writeOut_79 : decode cX6_writeOut 79 = .ok (.iload 5, 2) := dd_get dm_X6_writeOut_0 46 rfl
theorem dX6_writeOut_81 : decode cX6_writeOut 81 = .ok (.aload_n 1, 1) := dd_get dm_X6_writeOut_0 47 rfl
theorem dX6_writeOut_82 : decode cX6_writeOut 82 = .ok (.arraylength, 1) := dd_get dm_X6_writeOut_0 48 rfl
theorem dX6_writeOut_83 : decode cX6_writeOut 83 = .ok (.if_icmp .ge 41, 3) := dd_get dm_X6_writeOut_0 49 rfl
theorem dX6_writeOut_86 : decode cX6_writeOut 86 = .ok (.aload_n 1, 1) := dd_get dm_X6_writeOut_0 50 rfl
theorem dX6_writeOut_87 : decode cX6_writeOut 87 = .ok (.iload 5, 2) := dd_get dm_X6_writeOut_0 51 rfl
theorem dX6_writeOut_89 : decode cX6_writeOut 89 = .ok (.aload_n 0, 1) := dd_get dm_X6_writeOut_0 52 rfl
theorem dX6_writeOut_90 : decode cX6_writeOut 90 = .ok (.getfield 9, 3) := dd_get dm_X6_writeOut_0 53 rfl
theorem dX6_writeOut_93 : decode cX6_writeOut 93 = .ok (.iload 4, 2) := dd_get dm_X6_writeOut_0 54 rfl
theorem dX6_writeOut_95 : decode cX6_writeOut 95 = .ok (.iaload, 1) := dd_get dm_X6_writeOut_0 55 rfl
theorem dX6_writeOut_96 : decode cX6_writeOut 96 = .ok (.iastore, 1) := dd_get dm_X6_writeOut_0 56 rfl
theorem dX6_writeOut_97 : decode cX6_writeOut 97 = .ok (.iload_n 3, 1) := dd_get dm_X6_writeOut_0 57 rfl
theorem dX6_writeOut_98 : decode cX6_writeOut 98 = .ok (.ifCond .eq 12, 3) := dd_get dm_X6_writeOut_0 58 rfl
theorem dX6_writeOut_101 : decode cX6_writeOut 101 = .ok (.aload_n 0, 1) := dd_get dm_X6_writeOut_0 59 rfl
theorem dm_X6_writeOut_1 : (([(102, .iload 4, 2), (104, .invokevirtual 42, 3), (107, .goto 9, 3), (110, .aload_n 0, 1), (111, .iload 4, 2), (113, .invokevirtual 46, 3), (116, .istore 4, 2), (118, .iinc 5 1, 3), (121, .goto (-51), 3), (124, .return_, 1)] : List (Nat × Instr × Nat)).all fun q => decide (decode cX6_writeOut q.1 = .ok (q.2.1, q.2.2))) = true := by decide +kernel
theorem dX6_writeOut_102 : decode cX6_writeOut 102 = .ok (.iload 4, 2) := dd_get dm_X6_writeOut_1 0 rfl
theorem dX6_writeOut_104 : decode cX6_writeOut 104 = .ok (.invokevirtual 42, 3) := dd_get dm_X6_writeOut_1 1 rfl
theorem dX6_writeOut_107 : decode cX6_writeOut 107 = .ok (.goto 9, 3) := dd_get dm_X6_writeOut_1 2 rfl
theorem dX6_writeOut_110 : decode cX6_writeOut 110 = .ok (.aload_n 0, 1) := dd_get dm_X6_writeOut_1 3 rfl
theorem dX6_writeOut_111 : decode cX6_writeOut 111 = .ok (.iload 4, 2) := dd_get dm_X6_writeOut_1 4 rfl
theorem dX6_writeOut_113 : decode cX6_writeOut 113 = .ok (.invokevirtual 46, 3) := dd_get dm_X6_writeOut_1 5 rfl
theorem dX6_writeOut_116 : decode cX6_writeOut 116 = .ok (.istore 4, 2) := dd_get dm_X6_writeOut_1 6 rfl
theorem dX6_writeOut_118 : decode cX6_writeOut 118 = .ok (.iinc 5 1, 3) := dd_get dm_X6_writeOut_1 7 rfl
theorem dX6_writeOut_121 : decode cX6_writeOut 121 = .ok (.goto (-51), 3) := dd_get dm_X6_writeOut_1 8 rfl
theorem dX6_writeOut_124 : decode cX6_writeOut 124 = .ok (.return_, 1) := dd_get dm_X6_writeOut_1 9 rfl
theorem dm_X6_after_0 : (([(0, .iload_n 1, 1), (1, .iconst 1, 1), (2, .iadd, 1), (3, .aload_n 0, 1), (4, .getfield 15, 3), (7, .if_icmp .ge 9, 3), (10, .iload_n 1, 1), (11, .iconst 1, 1), (12, .iadd, 1), (13, .goto 4, 3), (16, .iconst 0, 1), (17, .ireturn, 1)] : List (Nat × Instr × Nat)).all fun q => decide (decode cX6_after q.1 = .ok (q.2.1, q.2.2))) = true := by decide +kernel
theorem dX6_after_0 : decode cX6_after 0 = .ok (.iload_n 1, 1) := dd_get dm_X6_after_0 0 rfl
theorem dX6_after_1 : decode cX6_after 1 = .ok (.iconst 1, 1) := dd_get dm_X6_after_0 1 rfl
theorem dX6_after_2 : decode cX6_after 2 = .ok (.iadd, 1) := dd_get dm_X6_after_0 2 rfl
theorem dX6_after_3 : decode cX6_after 3 = .ok (.aload_n 0, 1) := dd_get dm_X6_after_0 3 rfl
theorem dX6_after_4 : decode cX6_after 4 = .ok (.getfield 15, 3) := dd_get dm_X6_after_0 4 rfl
theorem dX6_after_7 : decode cX6_after 7 = .ok (.if_icmp .ge 9, 3) := dd_get dm_X6_after_0 5 rfl
theorem dX6_after_10 : decode cX6_after 10 = .ok (.iload_n 1, 1) := dd_get dm_X6_after_0 6 rfl
theorem dX6_after_11 : decode cX6_after 11 = .ok (.iconst 1, 1) := dd_get dm_X6_after_0 7 rfl
theorem dX6_after_12 : decode cX6_after 12 = .ok (.iadd, 1) := dd_get dm_X6_after_0 8 rfl
theorem dX6_after_13 : decode cX6_after 13 = .ok (.goto 4, 3) := dd_get dm_X6_after_0 9 rfl
theorem dX6_after_16 : decode cX6_after 16 = .ok (.iconst 0, 1) := dd_get dm_X6_after_0 10 rfl
theorem dX6_after_17 : decode cX6_after 17 = .ok (.ireturn, 1) := dd_get dm_X6_after_0 11 rfl
theorem dm_X6_before_0 : (([(0, .iload_n 1, 1), (1, .ifCond .le 9, 3), (4, .iload_n 1, 1), (5, .iconst 1, 1), (6, .isub, 1), (7, .goto 9, 3), (10, .aload_n 0, 1), (11, .getfield 15, 3), (14, .iconst 1, 1), (15, .isub, 1), (16, .ireturn, 1)] : List (Nat × Instr × Nat)).all fun q => decide (decode cX6_before q.1 = .ok (q.2.1, q.2.2))) = true := by decide +kernel
theorem dX6_before_0 : decode cX6_before 0 = .ok (.iload_n 1, 1) := dd_get dm_X6_before_0 0 rfl
theorem dX6_before_1 : decode cX6_before 1 = .ok (.ifCond .le 9, 3) := dd_get dm_X6_before_0 1 rfl
theorem dX6_before_4 : decode cX6_before 4 = .ok (.iload_n 1, 1) := dd_get dm_X6_before_0 2 rfl
theorem dX6_before_5 : decode cX6_before 5 = .ok (.iconst 1, 1) := dd_get dm_X6_before_0 3 rfl
theorem dX6_before_6 : decode cX6_before 6 = .ok (.isub, 1) := dd_get dm_X6_before_0 4 rfl
theorem dX6_before_7 : decode cX6_before 7 = .ok (.goto 9, 3) := dd_get dm_X6_before_0 5 rfl
theorem dX6_before_10 : decode cX6_before 10 = .ok (.aload_n 0, 1) := dd_get dm_X6_before_0 6 rfl
theorem dX6_before_11 : decode cX6_before 11 = .ok (.getfield 15, 3) := dd_get dm_X6_before_0 7 rfl
theorem dX6_before_14 : decode cX6_before 14 = .ok (.iconst 1, 1) := dd_get dm_X6_before_0 8 rfl
theorem dX6_before_15 : decode cX6_before 15 = .ok (.isub, 1) := dd_get dm_X6_before_0 9 rfl
theorem dX6_before_16 : decode cX6_before 16 = .ok (.ireturn, 1) := dd_get dm_X6_before_0 10 rfl
theorem dm_X7_init_0 : (([(0, .aload_n 0, 1), (1, .invokespecial 3, 3), (4, .aload_n 0, 1), (5, .bipush 100, 2), (7, .newarray .int, 2), (9, .putfield 9, 3), (12, .aload_n 0, 1), (13, .bipush 100, 2), (15, .newarray .int, 2), (17, .putfield 15, 3), (20, .aload_n 0, 1), (21, .bipush 100, 2), (23, .newarray .int, 2), (25, .putfield 18, 3), (28, .aload_n 0, 1), (29, .bipush 100, 2), (31, .newarray .boolean, 2), (33, .putfield 21, 3), (36, .aload_n 0, 1), (37, .bipush 40, 2), (39, .bipush 40, 2), (41, .multianewarray 25 2, 4), (45, .putfield 27, 3), (48, .aload_n 0, 1), (49, .lconst 0, 1), (50, .putfield 30, 3), (53, .aload_n 0, 1), (54, .iconst 0, 1), (55, .putfield 34, 3), (58, .return_, 1)] : List (Nat × Instr × Nat)).all fun q => decide (decode cX7_init q.1 = .ok (q.2.1, q.2.2))) = true := by decide +kernel
theorem dX7_init_0 : decode cX7_init 0 = .ok (.aload_n 0, 1) := dd_get dm_X7_init_0 0 rfl
theorem dX7_init_1 : decode cX7_init 1 = .ok (.invokespecial 3, 3) := dd_get dm_X7_init_0 1 rfl
theorem dX7_init_4 : decode cX7_init 4 = .ok (.aload_n 0, 1) := dd_get dm_X7_init_0 2 rfl
theorem dX7_init_5 : decode cX7_init 5 = .ok (.bipush 100, 2) := dd_get dm_X7_init_0 3 rfl
theorem dX7_init_7 : decode cX7_init 7 = .ok (.newarray .int, 2) := dd_get dm_X7_init_0 4 rfl
theorem dX7_init_9 : decode cX7_init 9 = .ok (.putfield 9, 3) := dd_get dm_X7_init_0 5 rfl
theorem dX7_init_12 : decode cX7_init 12 = .ok (.aload_n 0, 1) := dd_get dm_X7_init_0 6 rfl
theorem dX7_init_13 : decode cX7_init 13 = .ok (.bipush 100, 2) := dd_get dm_X7_init_0 7 rfl
theorem dX7_init_15 : decode cX7_init 15 = .ok (.newarray .int, 2) := dd_get dm_X7_init_0 8 rfl
theorem dX7_init_17 : decode cX7_init 17 = .ok (.putfield 15, 3) := dd_get dm_X7_init_0 9 rfl
theorem dX7_init_20 : decode cX7_init 20 = .ok (.aload_n 0, 1) := dd_get dm_X7_init_0 10 rfl
theorem dX7_init_21 : decode cX7_init 21 = .ok (.bipush 100, 2) := dd_get dm_X7_init_0 11 rfl
theorem dX7_init_23 : decode cX7_init 23 = .ok (.newarray .int, 2) := dd_get dm_X7_init_0 12 rfl
theorem dX7_init_25 : decode cX7_init 25 = .ok (.putfield 18, 3) := dd_get dm_X7_init_0 13 rfl
theorem dX7_init_28 : decode cX7_init 28 = .ok (.aload_n 0, 1) := dd_get dm_X7_init_0 14 rfl
theorem dX7_init_29 : decode cX7_init 29 = .ok (.bipush 100, 2) := dd_get dm_X7_init_0 15 rfl
theorem dX7_init_31 : decode cX7_init 31 = .ok (.newarray .boolean, 2) := dd_get dm_X7_init_0 16 rfl
theorem dX7_init_33 : decode cX7_init 33 = .ok (.putfield 21, 3) := dd_get dm_X7_init_0 17 rfl
theorem dX7_init_36 : decode cX7_init 36 = .ok (.aload_n 0, 1) := dd_get dm_X7_init_0 18 rfl
theorem dX7_init_37 : decode cX7_init 37 = .ok (.bipush 40, 2) := dd_get dm_X7_init_0 19 rfl
theorem dX7_init_39 : decode cX7_init 39 = .ok (.bipush 40, 2) := dd_get dm_X7_init_0 20 rfl
theorem dX7_init_41 : decode cX7_init 41 = .ok (.multianewarray 25 2, 4) := dd_get dm_X7_init_0 21 rfl
theorem dX7_init_45 : decode cX7_init 45 = .ok (.putfield 27, 3) := dd_get dm_X7_init_0 22 rfl
theorem dX7_init_48 : decode cX7_init 48 = .ok (.aload_n 0, 1) := dd_get dm_X7_init_0 23 rfl
theorem dX7_init_49 : decode cX7_init 49 = .ok (.lconst 0, 1) := dd_get dm_X7_init_0 24 rfl
theorem dX7_init_50 : decode cX7_init 50 = .ok (.putfield 30, 3) := dd_get dm_X7_init_0 25 rfl
theorem dX7_init_53 : decode cX7_init 53 = .ok (.aload_n 0, 1) := dd_get dm_X7_init_0 26 rfl
theorem dX7_init_54 : decode cX7_init 54 = .ok (.iconst 0, 1) := dd_get dm_X7_init_0 27 rfl
theorem dX7_init_55 : decode cX7_init 55 = .ok (.putfield 34, 3) := dd_get dm_X7_init_0 28 rfl
theorem dX7_init_58 : decode cX7_init 58 = .ok (.return_, 1) := dd_get dm_X7_init_0 29 rfl
theorem dm_X7_isLane_0 : (([(0, .iload_n 1, 1), (1, .ifCond .lt 15, 3), (4, .iload_n 1, 1), (5, .aload_n 0, 1), (6, .getfield 34, 3), (9, .if_icmp .ge 7, 3), (12, .iconst 1, 1), (13, .goto 4, 3), (16, .iconst 0, 1), (17, .ireturn, 1)] : List (Nat × Instr × Nat)).all fun q => decide (decode cX7_isLane q.1 = .ok (q.2.1, q.2.2))) = true := by decide +kernel
theorem dX7_isLane_0 : decode cX7_isLane 0 = .ok (.iload_n 1, 1) := dd_get dm_X7_isLane_0 0 rfl
theorem dX7_isLane_1 : decode cX7_isLane 1 = .ok (.ifCond .lt 15, 3) := dd_get dm_X7_isLane_0 1 rfl
theorem dX7_isLane_4 : decode cX7_isLane 4 = .ok (.iload_n 1, 1) := dd_get dm_X7_isLane_0 2 rfl
theorem dX7_isLane_5 : decode cX7_isLane 5 = .ok (.aload_n 0, 1) := dd_get dm_X7_isLane_0 3 rfl
theorem dX7_isLane_6 : decode cX7_isLane 6 = .ok (.getfield 34, 3) := dd_get dm_X7_isLane_0 4 rfl
theorem dX7_isLane_9 : decode cX7_isLane 9 = .ok (.if_icmp .ge 7, 3) := dd_get dm_X7_isLane_0 5 rfl
theorem dX7_isLane_12 : decode cX7_isLane 12 = .ok (.iconst 1, 1) := dd_get dm_X7_isLane_0 6 rfl
theorem dX7_isLane_13 : decode cX7_isLane 13 = .ok (.goto 4, 3) := dd_get dm_X7_isLane_0 7 rfl
theorem dX7_isLane_16 : decode cX7_isLane 16 = .ok (.iconst 0, 1) := dd_get dm_X7_isLane_0 8 rfl
theorem dX7_isLane_17 : decode cX7_isLane 17 = .ok (.ireturn, 1) := dd_get dm_X7_isLane_0 9 rfl
theorem dm_X7_build_0 : (([(0, .aload_n 0, 1), (1, .getfield 34, 3), (4, .istore 4, 2), (6, .aload_n 0, 1), (7, .getfield 9, 3), (10, .iload 4, 2), (12, .iload_n 1, 1), (13, .iastore, 1), (14, .aload_n 0, 1), (15, .getfield 15, 3), (18, .iload 4, 2), (20, .iload_n 2, 1), (21, .iastore, 1), (22, .aload_n 0, 1), (23, .getfield 18, 3), (26, .iload 4, 2), (28, .iload_n 3, 1), (29, .iastore, 1), (30, .aload_n 0, 1), (31, .getfield 21, 3), (34, .iload 4, 2), (36, .iconst 1, 1), (37, .bastore, 1), (38, .aload_n 0, 1), (39, .dup, 1), (40, .getfield 34, 3), (43, .iconst 1, 1), (44, .iadd, 1), (45, .putfield 34, 3), (48, .iload 4, 2), (50, .ireturn, 1)] : List (Nat × Instr × Nat)).all fun q => decide (decode cX7_build q.1 = .ok (q.2.1, q.2.2))) = true := by decide +kernel
theorem dX7_build_0 : decode cX7_build 0 = .ok (.aload_n 0, 1) := dd_get dm_X7_build_0 0 rfl
theorem dX7_build_1 : decode cX7_build 1 = .ok (.getfield 34, 3) := dd_get dm_X7_build_0 1 rfl
theorem dX7_build_4 : decode cX7_build 4 = .ok (.istore 4, 2) := dd_get dm_X7_build_0 2 rfl
theorem dX7_build_6 : decode cX7_build 6 = .ok (.aload_n 0, 1) := dd_get dm_X7_build_0 3 rfl
theorem dX7_build_7 : decode cX7_build 7 = .ok (.getfield 9, 3) := dd_get dm_X7_build_0 4 rfl
theorem dX7_build_10 : decode cX7_build 10 = .ok (.iload 4, 2) := dd_get dm_X7_build_0 5 rfl
theorem dX7_build_12 : decode cX7_build 12 = .ok (.iload_n 1, 1) := dd_get dm_X7_build_0 6 rfl
theorem dX7_build_13 : decode cX7_build 13 = .ok (.iastore, 1) := dd_get dm_X7_build_0 7 rfl
theorem dX7_build_14 : decode cX7_build 14 = .ok (.aload_n 0, 1) := dd_get dm_X7_build_0 8 rfl
theorem dX7_build_15 : decode cX7_build 15 = .ok (.getfield 15, 3) := dd_get dm_X7_build_0 9 rfl
theorem dX7_build_18 : decode cX7_build 18 = .ok (.iload 4, 2) := dd_get dm_X7_build_0 10 rfl
theorem dX7_build_20 : decode cX7_build 20 = .ok (.iload_n 2, 1) := dd_get dm_X7_build_0 11 rfl
theorem dX7_build_21 : decode cX7_build 21 = .ok (.iastore, 1) := dd_get dm_X7_build_0 12 rfl
theorem dX7_build_22 : decode cX7_build 22 = .ok (.aload_n 0, 1) := dd_get dm_X7_build_0 13 rfl
theorem dX7_build_23 : decode cX7_build 23 = .ok (.getfield 18, 3) := dd_get dm_X7_build_0 14 rfl
theorem dX7_build_26 : decode cX7_build 26 = .ok (.iload 4, 2) := dd_get dm_X7_build_0 15 rfl
theorem dX7_build_28 : decode cX7_build 28 = .ok (.iload_n 3, 1) := dd_get dm_X7_build_0 16 rfl
theorem dX7_build_29 : decode cX7_build 29 = .ok (.iastore, 1) := dd_get dm_X7_build_0 17 rfl
theorem dX7_build_30 : decode cX7_build 30 = .ok (.aload_n 0, 1) := dd_get dm_X7_build_0 18 rfl
theorem dX7_build_31 : decode cX7_build 31 = .ok (.getfield 21, 3) := dd_get dm_X7_build_0 19 rfl
theorem dX7_build_34 : decode cX7_build 34 = .ok (.iload 4, 2) := dd_get dm_X7_build_0 20 rfl
theorem dX7_build_36 : decode cX7_build 36 = .ok (.iconst 1, 1) := dd_get dm_X7_build_0 21 rfl
theorem dX7_build_37 : decode cX7_build 37 = .ok (.bastore, 1) := dd_get dm_X7_build_0 22 rfl
theorem dX7_build_38 : decode cX7_build 38 = .ok (.aload_n 0, 1) := dd_get dm_X7_build_0 23 rfl
theorem dX7_build_39 : decode cX7_build 39 = .ok (.dup, 1) := dd_get dm_X7_build_0 24 rfl
theorem dX7_build_40 : decode cX7_build 40 = .ok (.getfield 34, 3) := dd_get dm_X7_build_0 25 rfl
theorem dX7_build_43 : decode cX7_build 43 = .ok (.iconst 1, 1) := dd_get dm_X7_build_0 26 rfl
theorem dX7_build_44 : decode cX7_build 44 = .ok (.iadd, 1) := dd_get dm_X7_build_0 27 rfl
theorem dX7_build_45 : decode cX7_build 45 = .ok (.putfield 34, 3) := dd_get dm_X7_build_0 28 rfl
theorem dX7_build_48 : decode cX7_build 48 = .ok (.iload 4, 2) := dd_get dm_X7_build_0 29 rfl
theorem dX7_build_50 : decode cX7_build 50 = .ok (.ireturn, 1) := dd_get dm_X7_build_0 30 rfl
theorem dm_X7_resize_0 : (([(0, .lload_n 2, 1), (1, .invokestatic 38, 3), (4, .ifCond .eq 14, 3), (7, .aload_n 0, 1), (8, .getfield 18, 3), (11, .iload_n 1, 1), (12, .lload_n 2, 1), (13, .l2i, 1), (14, .iastore, 1), (15, .goto 10, 3), (18, .aload_n 0, 1), (19, .getfield 21, 3), (22, .iload_n 1, 1), (23, .iconst 0, 1), (24, .bastore, 1), (25, .return_, 1)] : List (Nat × Instr × Nat)).all fun q => decide (decode cX7_resize q.1 = .ok (q.2.1, q.2.2))) = true := by decide +kernel
theorem dX7_resize_0 : decode cX7_resize 0 = .ok (.lload_n 2, 1) := dd_get dm_X7_resize_0 0 rfl
theorem dX7_resize_1 : decode cX7_resize 1 = .ok (.invokestatic 38, 3) := dd_get dm_X7_resize_0 1 rfl
theorem dX7_resize_4 : decode cX7_resize 4 = .ok (.ifCond .eq 14, 3) := dd_get dm_X7_resize_0 2 rfl
theorem dX7_resize_7 : decode cX7_resize 7 = .ok (.aload_n 0, 1) := dd_get dm_X7_resize_0 3 rfl
theorem dX7_resize_8 : decode cX7_resize 8 = .ok (.getfield 18, 3) := dd_get dm_X7_resize_0 4 rfl
theorem dX7_resize_11 : decode cX7_resize 11 = .ok (.iload_n 1, 1) := dd_get dm_X7_resize_0 5 rfl
theorem dX7_resize_12 : decode cX7_resize 12 = .ok (.lload_n 2, 1) := dd_get dm_X7_resize_0 6 rfl
theorem dX7_resize_13 : decode cX7_resize 13 = .ok (.l2i, 1) := dd_get dm_X7_resize_0 7 rfl
theorem dX7_resize_14 : decode cX7_resize 14 = .ok (.iastore, 1) := dd_get dm_X7_resize_0 8 rfl
theorem dX7_resize_15 : decode cX7_resize 15 = .ok (.goto 10, 3) := dd_get dm_X7_resize_0 9 rfl
theorem dX7_resize_18 : decode cX7_resize 18 = .ok (.aload_n 0, 1) := dd_get dm_X7_resize_0 10 rfl
theorem dX7_resize_19 : decode cX7_resize 19 = .ok (.getfield 21, 3) := dd_get dm_X7_resize_0 11 rfl
theorem dX7_resize_22 : decode cX7_resize 22 = .ok (.iload_n 1, 1) := dd_get dm_X7_resize_0 12 rfl
theorem dX7_resize_23 : decode cX7_resize 23 = .ok (.iconst 0, 1) := dd_get dm_X7_resize_0 13 rfl
theorem dX7_resize_24 : decode cX7_resize 24 = .ok (.bastore, 1) := dd_get dm_X7_resize_0 14 rfl
theorem dX7_resize_25 : decode cX7_resize 25 = .ok (.return_, 1) := dd_get dm_X7_resize_0 15 rfl
theorem dm_X7_forgetWays_0 : (([(0, .aload_n 0, 1), (1, .lconst 0, 1), (2, .putfield 30, 3), (5, .return_, 1)] : List (Nat × Instr × Nat)).all fun q => decide (decode cX7_forgetWays q.1 = .ok (q.2.1, q.2.2))) = true := by decide +kernel
theorem dX7_forgetWays_0 : decode cX7_forgetWays 0 = .ok (.aload_n 0, 1) := dd_get dm_X7_forgetWays_0 0 rfl
theorem dX7_forgetWays_1 : decode cX7_forgetWays 1 = .ok (.lconst 0, 1) := dd_get dm_X7_forgetWays_0 1 rfl
theorem dX7_forgetWays_2 : decode cX7_forgetWays 2 = .ok (.putfield 30, 3) := dd_get dm_X7_forgetWays_0 2 rfl
theorem dX7_forgetWays_5 : decode cX7_forgetWays 5 = .ok (.return_, 1) := dd_get dm_X7_forgetWays_0 3 rfl
theorem dm_X7_waysFrom_0 : (([(0, .aload_n 0, 1), (1, .getfield 30, 3), (4, .iload_n 1, 1), (5, .lshr, 1), (6, .lconst 1, 1), (7, .land, 1), (8, .lconst 0, 1), (9, .lcmp, 1), (10, .ifCond .ne 26, 3), (13, .aload_n 0, 1), (14, .aload_n 0, 1), (15, .getfield 27, 3), (18, .iload_n 1, 1), (19, .aaload, 1), (20, .iload_n 1, 1), (21, .invokevirtual 42, 3), (24, .aload_n 0, 1), (25, .dup, 1), (26, .getfield 30, 3), (29, .lconst 1, 1), (30, .iload_n 1, 1), (31, .lshl, 1), (32, .lor, 1), (33, .putfield 30, 3), (36, .aload_n 0, 1), (37, .getfield 27, 3), (40, .iload_n 1, 1), (41, .aaload, 1), (42, .areturn, 1)] : List (Nat × Instr × Nat)).all fun q => decide (decode cX7_waysFrom q.1 = .ok (q.2.1, q.2.2))) = true := by decide +kernel
theorem dX7_waysFrom_0 : decode cX7_waysFrom 0 = .ok (.aload_n 0, 1) := dd_get dm_X7_waysFrom_0 0 rfl
theorem dX7_waysFrom_1 : decode cX7_waysFrom 1 = .ok (.getfield 30, 3) := dd_get dm_X7_waysFrom_0 1 rfl
theorem dX7_waysFrom_4 : decode cX7_waysFrom 4 = .ok (.iload_n 1, 1) := dd_get dm_X7_waysFrom_0 2 rfl
theorem dX7_waysFrom_5 : decode cX7_waysFrom 5 = .ok (.lshr, 1) := dd_get dm_X7_waysFrom_0 3 rfl
theorem dX7_waysFrom_6 : decode cX7_waysFrom 6 = .ok (.lconst 1, 1) := dd_get dm_X7_waysFrom_0 4 rfl
theorem dX7_waysFrom_7 : decode cX7_waysFrom 7 = .ok (.land, 1) := dd_get dm_X7_waysFrom_0 5 rfl
theorem dX7_waysFrom_8 : decode cX7_waysFrom 8 = .ok (.lconst 0, 1) := dd_get dm_X7_waysFrom_0 6 rfl
theorem dX7_waysFrom_9 : decode cX7_waysFrom 9 = .ok (.lcmp, 1) := dd_get dm_X7_waysFrom_0 7 rfl
theorem dX7_waysFrom_10 : decode cX7_waysFrom 10 = .ok (.ifCond .ne 26, 3) := dd_get dm_X7_waysFrom_0 8 rfl
theorem dX7_waysFrom_13 : decode cX7_waysFrom 13 = .ok (.aload_n 0, 1) := dd_get dm_X7_waysFrom_0 9 rfl
theorem dX7_waysFrom_14 : decode cX7_waysFrom 14 = .ok (.aload_n 0, 1) := dd_get dm_X7_waysFrom_0 10 rfl
theorem dX7_waysFrom_15 : decode cX7_waysFrom 15 = .ok (.getfield 27, 3) := dd_get dm_X7_waysFrom_0 11 rfl
theorem dX7_waysFrom_18 : decode cX7_waysFrom 18 = .ok (.iload_n 1, 1) := dd_get dm_X7_waysFrom_0 12 rfl
theorem dX7_waysFrom_19 : decode cX7_waysFrom 19 = .ok (.aaload, 1) := dd_get dm_X7_waysFrom_0 13 rfl
theorem dX7_waysFrom_20 : decode cX7_waysFrom 20 = .ok (.iload_n 1, 1) := dd_get dm_X7_waysFrom_0 14 rfl
theorem dX7_waysFrom_21 : decode cX7_waysFrom 21 = .ok (.invokevirtual 42, 3) := dd_get dm_X7_waysFrom_0 15 rfl
theorem dX7_waysFrom_24 : decode cX7_waysFrom 24 = .ok (.aload_n 0, 1) := dd_get dm_X7_waysFrom_0 16 rfl
theorem dX7_waysFrom_25 : decode cX7_waysFrom 25 = .ok (.dup, 1) := dd_get dm_X7_waysFrom_0 17 rfl
theorem dX7_waysFrom_26 : decode cX7_waysFrom 26 = .ok (.getfield 30, 3) := dd_get dm_X7_waysFrom_0 18 rfl
theorem dX7_waysFrom_29 : decode cX7_waysFrom 29 = .ok (.lconst 1, 1) := dd_get dm_X7_waysFrom_0 19 rfl
theorem dX7_waysFrom_30 : decode cX7_waysFrom 30 = .ok (.iload_n 1, 1) := dd_get dm_X7_waysFrom_0 20 rfl
theorem dX7_waysFrom_31 : decode cX7_waysFrom 31 = .ok (.lshl, 1) := dd_get dm_X7_waysFrom_0 21 rfl
theorem dX7_waysFrom_32 : decode cX7_waysFrom 32 = .ok (.lor, 1) := dd_get dm_X7_waysFrom_0 22 rfl
theorem dX7_waysFrom_33 : decode cX7_waysFrom 33 = .ok (.putfield 30, 3) := dd_get dm_X7_waysFrom_0 23 rfl
theorem dX7_waysFrom_36 : decode cX7_waysFrom 36 = .ok (.aload_n 0, 1) := dd_get dm_X7_waysFrom_0 24 rfl
theorem dX7_waysFrom_37 : decode cX7_waysFrom 37 = .ok (.getfield 27, 3) := dd_get dm_X7_waysFrom_0 25 rfl
theorem dX7_waysFrom_40 : decode cX7_waysFrom 40 = .ok (.iload_n 1, 1) := dd_get dm_X7_waysFrom_0 26 rfl
theorem dX7_waysFrom_41 : decode cX7_waysFrom 41 = .ok (.aaload, 1) := dd_get dm_X7_waysFrom_0 27 rfl
theorem dX7_waysFrom_42 : decode cX7_waysFrom 42 = .ok (.areturn, 1) := dd_get dm_X7_waysFrom_0 28 rfl
theorem dm_X7_reckon_0 : (([(0, .aload_n 1, 1), (1, .ldc 46, 2), (3, .invokestatic 47, 3), (6, .aload_n 1, 1), (7, .iload_n 2, 1), (8, .iconst 0, 1), (9, .iastore, 1), (10, .iconst 1, 1), (11, .istore_n 3, 1), (12, .iconst 0, 1), (13, .istore 4, 2), (15, .iload_n 3, 1), (16, .ifCond .eq 58, 3), (19, .iload 4, 2), (21, .bipush 40, 2), (23, .if_icmp .ge 51, 3), (26, .iconst 0, 1), (27, .istore_n 3, 1), (28, .iconst 0, 1), (29, .istore 5, 2), (31, .iload 5, 2), (33, .aload_n 0, 1), (34, .getfield 34, 3), (37, .if_icmp .ge 31, 3), (40, .aload_n 0, 1), (41, .getfield 21, 3), (44, .iload 5, 2), (46, .baload, 1), (47, .ifCond .eq 15, 3), (50, .aload_n 0, 1), (51, .aload_n 1, 1), (52, .iload 5, 2), (54, .invokevirtual 52, 3), (57, .ifCond .eq 5, 3), (60, .iconst 1, 1), (61, .istore_n 3, 1), (62, .iinc 5 1, 3), (65, .goto (-34), 3), (68, .iinc 4 1, 3), (71, .goto (-56), 3), (74, .return_, 1)] : List (Nat × Instr × Nat)).all fun q => decide (decode cX7_reckon q.1 = .ok (q.2.1, q.2.2))) = true := by decide +kernel
theorem dX7_reckon_0 : decode cX7_reckon 0 = .ok (.aload_n 1, 1) := dd_get dm_X7_reckon_0 0 rfl
theorem dX7_reckon_1 : decode cX7_reckon 1 = .ok (.ldc 46, 2) := dd_get dm_X7_reckon_0 1 rfl
theorem dX7_reckon_3 : decode cX7_reckon 3 = .ok (.invokestatic 47, 3) := dd_get dm_X7_reckon_0 2 rfl
theorem dX7_reckon_6 : decode cX7_reckon 6 = .ok (.aload_n 1, 1) := dd_get dm_X7_reckon_0 3 rfl
theorem dX7_reckon_7 : decode cX7_reckon 7 = .ok (.iload_n 2, 1) := dd_get dm_X7_reckon_0 4 rfl
theorem dX7_reckon_8 : decode cX7_reckon 8 = .ok (.iconst 0, 1) := dd_get dm_X7_reckon_0 5 rfl
theorem dX7_reckon_9 : decode cX7_reckon 9 = .ok (.iastore, 1) := dd_get dm_X7_reckon_0 6 rfl
theorem dX7_reckon_10 : decode cX7_reckon 10 = .ok (.iconst 1, 1) := dd_get dm_X7_reckon_0 7 rfl
theorem dX7_reckon_11 : decode cX7_reckon 11 = .ok (.istore_n 3, 1) := dd_get dm_X7_reckon_0 8 rfl
theorem dX7_reckon_12 : decode cX7_reckon 12 = .ok (.iconst 0, 1) := dd_get dm_X7_reckon_0 9 rfl
theorem dX7_reckon_13 : decode cX7_reckon 13 = .ok (.istore 4, 2) := dd_get dm_X7_reckon_0 10 rfl
theorem dX7_reckon_15 : decode cX7_reckon 15 = .ok (.iload_n 3, 1) := dd_get dm_X7_reckon_0 11 rfl
theorem dX7_reckon_16 : decode cX7_reckon 16 = .ok (.ifCond .eq 58, 3) := dd_get dm_X7_reckon_0 12 rfl
theorem dX7_reckon_19 : decode cX7_reckon 19 = .ok (.iload 4, 2) := dd_get dm_X7_reckon_0 13 rfl
theorem dX7_reckon_21 : decode cX7_reckon 21 = .ok (.bipush 40, 2) := dd_get dm_X7_reckon_0 14 rfl
theorem dX7_reckon_23 : decode cX7_reckon 23 = .ok (.if_icmp .ge 51, 3) := dd_get dm_X7_reckon_0 15 rfl
theorem dX7_reckon_26 : decode cX7_reckon 26 = .ok (.iconst 0, 1) := dd_get dm_X7_reckon_0 16 rfl
theorem dX7_reckon_27 : decode cX7_reckon 27 = .ok (.istore_n 3, 1) := dd_get dm_X7_reckon_0 17 rfl
theorem dX7_reckon_28 : decode cX7_reckon 28 = .ok (.iconst 0, 1) := dd_get dm_X7_reckon_0 18 rfl
theorem dX7_reckon_29 : decode cX7_reckon 29 = .ok (.istore 5, 2) := dd_get dm_X7_reckon_0 19 rfl
theorem dX7_reckon_31 : decode cX7_reckon 31 = .ok (.iload 5, 2) := dd_get dm_X7_reckon_0 20 rfl
theorem dX7_reckon_33 : decode cX7_reckon 33 = .ok (.aload_n 0, 1) := dd_get dm_X7_reckon_0 21 rfl
theorem dX7_reckon_34 : decode cX7_reckon 34 = .ok (.getfield 34, 3) := dd_get dm_X7_reckon_0 22 rfl
theorem dX7_reckon_37 : decode cX7_reckon 37 = .ok (.if_icmp .ge 31, 3) := dd_get dm_X7_reckon_0 23 rfl
theorem dX7_reckon_40 : decode cX7_reckon 40 = .ok (.aload_n 0, 1) := dd_get dm_X7_reckon_0 24 rfl
theorem dX7_reckon_41 : decode cX7_reckon 41 = .ok (.getfield 21, 3) := dd_get dm_X7_reckon_0 25 rfl
theorem dX7_reckon_44 : decode cX7_reckon 44 = .ok (.iload 5, 2) := dd_get dm_X7_reckon_0 26 rfl
theorem dX7_reckon_46 : decode cX7_reckon 46 = .ok (.baload, 1) := dd_get dm_X7_reckon_0 27 rfl
theorem dX7_reckon_47 : decode cX7_reckon 47 = .ok (.ifCond .eq 15, 3) := dd_get dm_X7_reckon_0 28 rfl
theorem dX7_reckon_50 : decode cX7_reckon 50 = .ok (.aload_n 0, 1) := dd_get dm_X7_reckon_0 29 rfl
theorem dX7_reckon_51 : decode cX7_reckon 51 = .ok (.aload_n 1, 1) := dd_get dm_X7_reckon_0 30 rfl
theorem dX7_reckon_52 : decode cX7_reckon 52 = .ok (.iload 5, 2) := dd_get dm_X7_reckon_0 31 rfl
theorem dX7_reckon_54 : decode cX7_reckon 54 = .ok (.invokevirtual 52, 3) := dd_get dm_X7_reckon_0 32 rfl
theorem dX7_reckon_57 : decode cX7_reckon 57 = .ok (.ifCond .eq 5, 3) := dd_get dm_X7_reckon_0 33 rfl
theorem dX7_reckon_60 : decode cX7_reckon 60 = .ok (.iconst 1, 1) := dd_get dm_X7_reckon_0 34 rfl
theorem dX7_reckon_61 : decode cX7_reckon 61 = .ok (.istore_n 3, 1) := dd_get dm_X7_reckon_0 35 rfl
theorem dX7_reckon_62 : decode cX7_reckon 62 = .ok (.iinc 5 1, 3) := dd_get dm_X7_reckon_0 36 rfl
theorem dX7_reckon_65 : decode cX7_reckon 65 = .ok (.goto (-34), 3) := dd_get dm_X7_reckon_0 37 rfl
theorem dX7_reckon_68 : decode cX7_reckon 68 = .ok (.iinc 4 1, 3) := dd_get dm_X7_reckon_0 38 rfl
theorem dX7_reckon_71 : decode cX7_reckon 71 = .ok (.goto (-56), 3) := dd_get dm_X7_reckon_0 39 rfl
theorem dX7_reckon_74 : decode cX7_reckon 74 = .ok (.return_, 1) := dd_get dm_X7_reckon_0 40 rfl
theorem dm_X7_shorten_0 : (([(0, .aload_n 0, 1), (1, .getfield 9, 3), (4, .iload_n 2, 1), (5, .iaload, 1), (6, .istore_n 3, 1), (7, .aload_n 0, 1), (8, .getfield 15, 3), (11, .iload_n 2, 1), (12, .iaload, 1), (13, .istore 4, 2), (15, .aload_n 1, 1), (16, .iload_n 3, 1), (17, .iaload, 1), (18, .aload_n 0, 1), (19, .getfield 18, 3), (22, .iload_n 2, 1), (23, .iaload, 1), (24, .iadd, 1), (25, .aload_n 1, 1), (26, .iload 4, 2), (28, .iaload, 1), (29, .if_icmp .ge 19, 3), (32, .aload_n 1, 1), (33, .iload 4, 2), (35, .aload_n 1, 1), (36, .iload_n 3, 1), (37, .iaload, 1), (38, .aload_n 0, 1), (39, .getfield 18, 3), (42, .iload_n 2, 1), (43, .iaload, 1), (44, .iadd, 1), (45, .iastore, 1), (46, .iconst 1, 1), (47, .ireturn, 1), (48, .aload_n 1, 1), (49, .iload 4, 2), (51, .iaload, 1), (52, .aload_n 0, 1), (53, .getfield 18, 3), (56, .iload_n 2, 1), (57, .iaload, 1), (58, .iadd, 1), (59, .aload_n 1, 1), (60, .iload_n 3, 1), (61, .iaload, 1), (62, .if_icmp .ge 19, 3), (65, .aload_n 1, 1), (66, .iload_n 3, 1), (67, .aload_n 1, 1), (68, .iload 4, 2), (70, .iaload, 1), (71, .aload_n 0, 1), (72, .getfield 18, 3), (75, .iload_n 2, 1), (76, .iaload, 1), (77, .iadd, 1), (78, .iastore, 1), (79, .iconst 1, 1), (80, .ireturn, 1)] : List (Nat × Instr × Nat)).all fun q => decide (decode cX7_shorten q.1 = .ok (q.2.1, q.2.2))) = true := by decide +kernel
theorem dX7_shorten_0 : decode cX7_shorten 0 = .ok (.aload_n 0, 1) := dd_get dm_X7_shorten_0 0 rfl
theorem dX7_shorten_1 : decode cX7_shorten 1 = .ok (.getfield 9, 3) := dd_get dm_X7_shorten_0 1 rfl
theorem dX7_shorten_4 : decode cX7_shorten 4 = .ok (.iload_n 2, 1) := dd_get dm_X7_shorten_0 2 rfl
theorem dX7_shorten_5 : decode cX7_shorten 5 = .ok (.iaload, 1) := dd_get dm_X7_shorten_0 3 rfl
theorem dX7_shorten_6 : decode cX7_shorten 6 = .ok (.istore_n 3, 1) := dd_get dm_X7_shorten_0 4 rfl
theorem dX7_shorten_7 : decode cX7_shorten 7 = .ok (.aload_n 0, 1) := dd_get dm_X7_shorten_0 5 rfl
theorem dX7_shorten_8 : decode cX7_shorten 8 = .ok (.getfield 15, 3) := dd_get dm_X7_shorten_0 6 rfl
theorem dX7_shorten_11 : decode cX7_shorten 11 = .ok (.iload_n 2, 1) := dd_get dm_X7_shorten_0 7 rfl
theorem dX7_shorten_12 : decode cX7_shorten 12 = .ok (.iaload, 1) := dd_get dm_X7_shorten_0 8 rfl
theorem dX7_shorten_13 : decode cX7_shorten 13 = .ok (.istore 4, 2) := dd_get dm_X7_shorten_0 9 rfl
theorem dX7_shorten_15 : decode cX7_shorten 15 = .ok (.aload_n 1, 1) := dd_get dm_X7_shorten_0 10 rfl
theorem dX7_shorten_16 : decode cX7_shorten 16 = .ok (.iload_n 3, 1) := dd_get dm_X7_shorten_0 11 rfl
theorem dX7_shorten_17 : decode cX7_shorten 17 = .ok (.iaload, 1) := dd_get dm_X7_shorten_0 12 rfl
theorem dX7_shorten_18 : decode cX7_shorten 18 = .ok (.aload_n 0, 1) := dd_get dm_X7_shorten_0 13 rfl
theorem dX7_shorten_19 : decode cX7_shorten 19 = .ok (.getfield 18, 3) := dd_get dm_X7_shorten_0 14 rfl
theorem dX7_shorten_22 : decode cX7_shorten 22 = .ok (.iload_n 2, 1) := dd_get dm_X7_shorten_0 15 rfl
theorem dX7_shorten_23 : decode cX7_shorten 23 = .ok (.iaload, 1) := dd_get dm_X7_shorten_0 16 rfl
theorem dX7_shorten_24 : decode cX7_shorten 24 = .ok (.iadd, 1) := dd_get dm_X7_shorten_0 17 rfl
theorem dX7_shorten_25 : decode cX7_shorten 25 = .ok (.aload_n 1, 1) := dd_get dm_X7_shorten_0 18 rfl
theorem dX7_shorten_26 : decode cX7_shorten 26 = .ok (.iload 4, 2) := dd_get dm_X7_shorten_0 19 rfl
theorem dX7_shorten_28 : decode cX7_shorten 28 = .ok (.iaload, 1) := dd_get dm_X7_shorten_0 20 rfl
theorem dX7_shorten_29 : decode cX7_shorten 29 = .ok (.if_icmp .ge 19, 3) := dd_get dm_X7_shorten_0 21 rfl
theorem dX7_shorten_32 : decode cX7_shorten 32 = .ok (.aload_n 1, 1) := dd_get dm_X7_shorten_0 22 rfl
theorem dX7_shorten_33 : decode cX7_shorten 33 = .ok (.iload 4, 2) := dd_get dm_X7_shorten_0 23 rfl
theorem dX7_shorten_35 : decode cX7_shorten 35 = .ok (.aload_n 1, 1) := dd_get dm_X7_shorten_0 24 rfl
theorem dX7_shorten_36 : decode cX7_shorten 36 = .ok (.iload_n 3, 1) := dd_get dm_X7_shorten_0 25 rfl
theorem dX7_shorten_37 : decode cX7_shorten 37 = .ok (.iaload, 1) := dd_get dm_X7_shorten_0 26 rfl
theorem dX7_shorten_38 : decode cX7_shorten 38 = .ok (.aload_n 0, 1) := dd_get dm_X7_shorten_0 27 rfl
theorem dX7_shorten_39 : decode cX7_shorten 39 = .ok (.getfield 18, 3) := dd_get dm_X7_shorten_0 28 rfl
theorem dX7_shorten_42 : decode cX7_shorten 42 = .ok (.iload_n 2, 1) := dd_get dm_X7_shorten_0 29 rfl
theorem dX7_shorten_43 : decode cX7_shorten 43 = .ok (.iaload, 1) := dd_get dm_X7_shorten_0 30 rfl
theorem dX7_shorten_44 : decode cX7_shorten 44 = .ok (.iadd, 1) := dd_get dm_X7_shorten_0 31 rfl
theorem dX7_shorten_45 : decode cX7_shorten 45 = .ok (.iastore, 1) := dd_get dm_X7_shorten_0 32 rfl
theorem dX7_shorten_46 : decode cX7_shorten 46 = .ok (.iconst 1, 1) := dd_get dm_X7_shorten_0 33 rfl
theorem dX7_shorten_47 : decode cX7_shorten 47 = .ok (.ireturn, 1) := dd_get dm_X7_shorten_0 34 rfl
theorem dX7_shorten_48 : decode cX7_shorten 48 = .ok (.aload_n 1, 1) := dd_get dm_X7_shorten_0 35 rfl
theorem dX7_shorten_49 : decode cX7_shorten 49 = .ok (.iload 4, 2) := dd_get dm_X7_shorten_0 36 rfl
theorem dX7_shorten_51 : decode cX7_shorten 51 = .ok (.iaload, 1) := dd_get dm_X7_shorten_0 37 rfl
theorem dX7_shorten_52 : decode cX7_shorten 52 = .ok (.aload_n 0, 1) := dd_get dm_X7_shorten_0 38 rfl
theorem dX7_shorten_53 : decode cX7_shorten 53 = .ok (.getfield 18, 3) := dd_get dm_X7_shorten_0 39 rfl
theorem dX7_shorten_56 : decode cX7_shorten 56 = .ok (.iload_n 2, 1) := dd_get dm_X7_shorten_0 40 rfl
theorem dX7_shorten_57 : decode cX7_shorten 57 = .ok (.iaload, 1) := dd_get dm_X7_shorten_0 41 rfl
theorem dX7_shorten_58 : decode cX7_shorten 58 = .ok (.iadd, 1) := dd_get dm_X7_shorten_0 42 rfl
theorem dX7_shorten_59 : decode cX7_shorten 59 = .ok (.aload_n 1, 1) := dd_get dm_X7_shorten_0 43 rfl
theorem dX7_shorten_60 : decode cX7_shorten 60 = .ok (.iload_n 3, 1) := dd_get dm_X7_shorten_0 44 rfl
theorem dX7_shorten_61 : decode cX7_shorten 61 = .ok (.iaload, 1) := dd_get dm_X7_shorten_0 45 rfl
theorem dX7_shorten_62 : decode cX7_shorten 62 = .ok (.if_icmp .ge 19, 3) := dd_get dm_X7_shorten_0 46 rfl
theorem dX7_shorten_65 : decode cX7_shorten 65 = .ok (.aload_n 1, 1) := dd_get dm_X7_shorten_0 47 rfl
theorem dX7_shorten_66 : decode cX7_shorten 66 = .ok (.iload_n 3, 1) := dd_get dm_X7_shorten_0 48 rfl
theorem dX7_shorten_67 : decode cX7_shorten 67 = .ok (.aload_n 1, 1) := dd_get dm_X7_shorten_0 49 rfl
theorem dX7_shorten_68 : decode cX7_shorten 68 = .ok (.iload 4, 2) := dd_get dm_X7_shorten_0 50 rfl
theorem dX7_shorten_70 : decode cX7_shorten 70 = .ok (.iaload, 1) := dd_get dm_X7_shorten_0 51 rfl
theorem dX7_shorten_71 : decode cX7_shorten 71 = .ok (.aload_n 0, 1) := dd_get dm_X7_shorten_0 52 rfl
theorem dX7_shorten_72 : decode cX7_shorten 72 = .ok (.getfield 18, 3) := dd_get dm_X7_shorten_0 53 rfl
theorem dX7_shorten_75 : decode cX7_shorten 75 = .ok (.iload_n 2, 1) := dd_get dm_X7_shorten_0 54 rfl
theorem dX7_shorten_76 : decode cX7_shorten 76 = .ok (.iaload, 1) := dd_get dm_X7_shorten_0 55 rfl
theorem dX7_shorten_77 : decode cX7_shorten 77 = .ok (.iadd, 1) := dd_get dm_X7_shorten_0 56 rfl
theorem dX7_shorten_78 : decode cX7_shorten 78 = .ok (.iastore, 1) := dd_get dm_X7_shorten_0 57 rfl
theorem dX7_shorten_79 : decode cX7_shorten 79 = .ok (.iconst 1, 1) := dd_get dm_X7_shorten_0 58 rfl
theorem dX7_shorten_80 : decode cX7_shorten 80 = .ok (.ireturn, 1) := dd_get dm_X7_shorten_0 59 rfl
theorem dm_X7_shorten_1 : (([(81, .iconst 0, 1), (82, .ireturn, 1)] : List (Nat × Instr × Nat)).all fun q => decide (decode cX7_shorten q.1 = .ok (q.2.1, q.2.2))) = true := by decide +kernel
theorem dX7_shorten_81 : decode cX7_shorten 81 = .ok (.iconst 0, 1) := dd_get dm_X7_shorten_1 0 rfl
theorem dX7_shorten_82 : decode cX7_shorten 82 = .ok (.ireturn, 1) := dd_get dm_X7_shorten_1 1 rfl
theorem dm_X7_crossingOnWalk_0 : (([(0, .aload_n 0, 1), (1, .iload_n 2, 1), (2, .invokevirtual 56, 3), (5, .astore 4, 2), (7, .iload_n 3, 1), (8, .ifCond .lt 18, 3), (11, .iload_n 3, 1), (12, .bipush 40, 2), (14, .if_icmp .ge 12, 3), (17, .aload 4, 2), (19, .iload_n 1, 1), (20, .iaload, 1), (21, .ldc 46, 2), (23, .if_icmp .ne 5, 3), (26, .iconst (-1), 1), (27, .ireturn, 1), (28, .iload_n 1, 1), (29, .istore 5, 2), (31, .iconst 0, 1), (32, .istore 6, 2), (34, .iload 6, 2), (36, .iload_n 3, 1), (37, .if_icmp .ge 27, 3), (40, .iload 5, 2), (42, .iload_n 2, 1), (43, .if_icmp .ne 5, 3), (46, .iconst (-1), 1), (47, .ireturn, 1), (48, .aload_n 0, 1), (49, .iload 5, 2), (51, .aload 4, 2), (53, .invokevirtual 60, 3), (56, .istore 5, 2), (58, .iinc 6 1, 3), (61, .goto (-27), 3), (64, .iload 5, 2), (66, .ireturn, 1)] : List (Nat × Instr × Nat)).all fun q => decide (decode cX7_crossingOnWalk q.1 = .ok (q.2.1, q.2.2))) = true := by decide +kernel
theorem dX7_crossingOnWalk_0 : decode cX7_crossingOnWalk 0 = .ok (.aload_n 0, 1) := dd_get dm_X7_crossingOnWalk_0 0 rfl
theorem dX7_crossingOnWalk_1 : decode cX7_crossingOnWalk 1 = .ok (.iload_n 2, 1) := dd_get dm_X7_crossingOnWalk_0 1 rfl
theorem dX7_crossingOnWalk_2 : decode cX7_crossingOnWalk 2 = .ok (.invokevirtual 56, 3) := dd_get dm_X7_crossingOnWalk_0 2 rfl
theorem dX7_crossingOnWalk_5 : decode cX7_crossingOnWalk 5 = .ok (.astore 4, 2) := dd_get dm_X7_crossingOnWalk_0 3 rfl
theorem dX7_crossingOnWalk_7 : decode cX7_crossingOnWalk 7 = .ok (.iload_n 3, 1) := dd_get dm_X7_crossingOnWalk_0 4 rfl
theorem dX7_crossingOnWalk_8 : decode cX7_crossingOnWalk 8 = .ok (.ifCond .lt 18, 3) := dd_get dm_X7_crossingOnWalk_0 5 rfl
theorem dX7_crossingOnWalk_11 : decode cX7_crossingOnWalk 11 = .ok (.iload_n 3, 1) := dd_get dm_X7_crossingOnWalk_0 6 rfl
theorem dX7_crossingOnWalk_12 : decode cX7_crossingOnWalk 12 = .ok (.bipush 40, 2) := dd_get dm_X7_crossingOnWalk_0 7 rfl
theorem dX7_crossingOnWalk_14 : decode cX7_crossingOnWalk 14 = .ok (.if_icmp .ge 12, 3) := dd_get dm_X7_crossingOnWalk_0 8 rfl
theorem dX7_crossingOnWalk_17 : decode cX7_crossingOnWalk 17 = .ok (.aload 4, 2) := dd_get dm_X7_crossingOnWalk_0 9 rfl
theorem dX7_crossingOnWalk_19 : decode cX7_crossingOnWalk 19 = .ok (.iload_n 1, 1) := dd_get dm_X7_crossingOnWalk_0 10 rfl
theorem dX7_crossingOnWalk_20 : decode cX7_crossingOnWalk 20 = .ok (.iaload, 1) := dd_get dm_X7_crossingOnWalk_0 11 rfl
theorem dX7_crossingOnWalk_21 : decode cX7_crossingOnWalk 21 = .ok (.ldc 46, 2) := dd_get dm_X7_crossingOnWalk_0 12 rfl
theorem dX7_crossingOnWalk_23 : decode cX7_crossingOnWalk 23 = .ok (.if_icmp .ne 5, 3) := dd_get dm_X7_crossingOnWalk_0 13 rfl
theorem dX7_crossingOnWalk_26 : decode cX7_crossingOnWalk 26 = .ok (.iconst (-1), 1) := dd_get dm_X7_crossingOnWalk_0 14 rfl
theorem dX7_crossingOnWalk_27 : decode cX7_crossingOnWalk 27 = .ok (.ireturn, 1) := dd_get dm_X7_crossingOnWalk_0 15 rfl
theorem dX7_crossingOnWalk_28 : decode cX7_crossingOnWalk 28 = .ok (.iload_n 1, 1) := dd_get dm_X7_crossingOnWalk_0 16 rfl
theorem dX7_crossingOnWalk_29 : decode cX7_crossingOnWalk 29 = .ok (.istore 5, 2) := dd_get dm_X7_crossingOnWalk_0 17 rfl
theorem dX7_crossingOnWalk_31 : decode cX7_crossingOnWalk 31 = .ok (.iconst 0, 1) := dd_get dm_X7_crossingOnWalk_0 18 rfl
theorem dX7_crossingOnWalk_32 : decode cX7_crossingOnWalk 32 = .ok (.istore 6, 2) := dd_get dm_X7_crossingOnWalk_0 19 rfl
theorem dX7_crossingOnWalk_34 : decode cX7_crossingOnWalk 34 = .ok (.iload 6, 2) := dd_get dm_X7_crossingOnWalk_0 20 rfl
theorem dX7_crossingOnWalk_36 : decode cX7_crossingOnWalk 36 = .ok (.iload_n 3, 1) := dd_get dm_X7_crossingOnWalk_0 21 rfl
theorem dX7_crossingOnWalk_37 : decode cX7_crossingOnWalk 37 = .ok (.if_icmp .ge 27, 3) := dd_get dm_X7_crossingOnWalk_0 22 rfl
theorem dX7_crossingOnWalk_40 : decode cX7_crossingOnWalk 40 = .ok (.iload 5, 2) := dd_get dm_X7_crossingOnWalk_0 23 rfl
theorem dX7_crossingOnWalk_42 : decode cX7_crossingOnWalk 42 = .ok (.iload_n 2, 1) := dd_get dm_X7_crossingOnWalk_0 24 rfl
theorem dX7_crossingOnWalk_43 : decode cX7_crossingOnWalk 43 = .ok (.if_icmp .ne 5, 3) := dd_get dm_X7_crossingOnWalk_0 25 rfl
theorem dX7_crossingOnWalk_46 : decode cX7_crossingOnWalk 46 = .ok (.iconst (-1), 1) := dd_get dm_X7_crossingOnWalk_0 26 rfl
theorem dX7_crossingOnWalk_47 : decode cX7_crossingOnWalk 47 = .ok (.ireturn, 1) := dd_get dm_X7_crossingOnWalk_0 27 rfl
theorem dX7_crossingOnWalk_48 : decode cX7_crossingOnWalk 48 = .ok (.aload_n 0, 1) := dd_get dm_X7_crossingOnWalk_0 28 rfl
theorem dX7_crossingOnWalk_49 : decode cX7_crossingOnWalk 49 = .ok (.iload 5, 2) := dd_get dm_X7_crossingOnWalk_0 29 rfl
theorem dX7_crossingOnWalk_51 : decode cX7_crossingOnWalk 51 = .ok (.aload 4, 2) := dd_get dm_X7_crossingOnWalk_0 30 rfl
theorem dX7_crossingOnWalk_53 : decode cX7_crossingOnWalk 53 = .ok (.invokevirtual 60, 3) := dd_get dm_X7_crossingOnWalk_0 31 rfl
theorem dX7_crossingOnWalk_56 : decode cX7_crossingOnWalk 56 = .ok (.istore 5, 2) := dd_get dm_X7_crossingOnWalk_0 32 rfl
theorem dX7_crossingOnWalk_58 : decode cX7_crossingOnWalk 58 = .ok (.iinc 6 1, 3) := dd_get dm_X7_crossingOnWalk_0 33 rfl
theorem dX7_crossingOnWalk_61 : decode cX7_crossingOnWalk 61 = .ok (.goto (-27), 3) := dd_get dm_X7_crossingOnWalk_0 34 rfl
theorem dX7_crossingOnWalk_64 : decode cX7_crossingOnWalk 64 = .ok (.iload 5, 2) := dd_get dm_X7_crossingOnWalk_0 35 rfl
theorem dX7_crossingOnWalk_66 : decode cX7_crossingOnWalk 66 = .ok (.ireturn, 1) := dd_get dm_X7_crossingOnWalk_0 36 rfl
theorem dm_X7_nextOnWalk_0 : (([(0, .iload_n 1, 1), (1, .istore_n 3, 1), (2, .iconst 0, 1), (3, .istore 4, 2), (5, .iload 4, 2), (7, .aload_n 0, 1), (8, .getfield 34, 3), (11, .if_icmp .ge 66, 3), (14, .aload_n 0, 1), (15, .iload 4, 2), (17, .iload_n 1, 1), (18, .invokevirtual 64, 3), (21, .istore 5, 2), (23, .iload 5, 2), (25, .iconst (-1), 1), (26, .if_icmp .eq 45, 3), (29, .aload_n 0, 1), (30, .getfield 21, 3), (33, .iload 4, 2), (35, .baload, 1), (36, .ifCond .eq 35, 3), (39, .aload_n 0, 1), (40, .getfield 18, 3), (43, .iload 4, 2), (45, .iaload, 1), (46, .aload_n 2, 1), (47, .iload 5, 2), (49, .iaload, 1), (50, .iadd, 1), (51, .aload_n 2, 1), (52, .iload_n 1, 1), (53, .iaload, 1), (54, .if_icmp .ne 17, 3), (57, .iload_n 3, 1), (58, .iload_n 1, 1), (59, .if_icmp .eq 9, 3), (62, .iload 5, 2), (64, .iload_n 3, 1), (65, .if_icmp .ge 6, 3), (68, .iload 5, 2), (70, .istore_n 3, 1), (71, .iinc 4 1, 3), (74, .goto (-69), 3), (77, .iload_n 3, 1), (78, .ireturn, 1)] : List (Nat × Instr × Nat)).all fun q => decide (decode cX7_nextOnWalk q.1 = .ok (q.2.1, q.2.2))) = true := by decide +kernel
theorem dX7_nextOnWalk_0 : decode cX7_nextOnWalk 0 = .ok (.iload_n 1, 1) := dd_get dm_X7_nextOnWalk_0 0 rfl
theorem dX7_nextOnWalk_1 : decode cX7_nextOnWalk 1 = .ok (.istore_n 3, 1) := dd_get dm_X7_nextOnWalk_0 1 rfl
theorem dX7_nextOnWalk_2 : decode cX7_nextOnWalk 2 = .ok (.iconst 0, 1) := dd_get dm_X7_nextOnWalk_0 2 rfl
theorem dX7_nextOnWalk_3 : decode cX7_nextOnWalk 3 = .ok (.istore 4, 2) := dd_get dm_X7_nextOnWalk_0 3 rfl
theorem dX7_nextOnWalk_5 : decode cX7_nextOnWalk 5 = .ok (.iload 4, 2) := dd_get dm_X7_nextOnWalk_0 4 rfl
theorem dX7_nextOnWalk_7 : decode cX7_nextOnWalk 7 = .ok (.aload_n 0, 1) := dd_get dm_X7_nextOnWalk_0 5 rfl
theorem dX7_nextOnWalk_8 : decode cX7_nextOnWalk 8 = .ok (.getfield 34, 3) := dd_get dm_X7_nextOnWalk_0 6 rfl
theorem dX7_nextOnWalk_11 : decode cX7_nextOnWalk 11 = .ok (.if_icmp .ge 66, 3) := dd_get dm_X7_nextOnWalk_0 7 rfl
theorem dX7_nextOnWalk_14 : decode cX7_nextOnWalk 14 = .ok (.aload_n 0, 1) := dd_get dm_X7_nextOnWalk_0 8 rfl
theorem dX7_nextOnWalk_15 : decode cX7_nextOnWalk 15 = .ok (.iload 4, 2) := dd_get dm_X7_nextOnWalk_0 9 rfl
theorem dX7_nextOnWalk_17 : decode cX7_nextOnWalk 17 = .ok (.iload_n 1, 1) := dd_get dm_X7_nextOnWalk_0 10 rfl
theorem dX7_nextOnWalk_18 : decode cX7_nextOnWalk 18 = .ok (.invokevirtual 64, 3) := dd_get dm_X7_nextOnWalk_0 11 rfl
theorem dX7_nextOnWalk_21 : decode cX7_nextOnWalk 21 = .ok (.istore 5, 2) := dd_get dm_X7_nextOnWalk_0 12 rfl
theorem dX7_nextOnWalk_23 : decode cX7_nextOnWalk 23 = .ok (.iload 5, 2) := dd_get dm_X7_nextOnWalk_0 13 rfl
theorem dX7_nextOnWalk_25 : decode cX7_nextOnWalk 25 = .ok (.iconst (-1), 1) := dd_get dm_X7_nextOnWalk_0 14 rfl
theorem dX7_nextOnWalk_26 : decode cX7_nextOnWalk 26 = .ok (.if_icmp .eq 45, 3) := dd_get dm_X7_nextOnWalk_0 15 rfl
theorem dX7_nextOnWalk_29 : decode cX7_nextOnWalk 29 = .ok (.aload_n 0, 1) := dd_get dm_X7_nextOnWalk_0 16 rfl
theorem dX7_nextOnWalk_30 : decode cX7_nextOnWalk 30 = .ok (.getfield 21, 3) := dd_get dm_X7_nextOnWalk_0 17 rfl
theorem dX7_nextOnWalk_33 : decode cX7_nextOnWalk 33 = .ok (.iload 4, 2) := dd_get dm_X7_nextOnWalk_0 18 rfl
theorem dX7_nextOnWalk_35 : decode cX7_nextOnWalk 35 = .ok (.baload, 1) := dd_get dm_X7_nextOnWalk_0 19 rfl
theorem dX7_nextOnWalk_36 : decode cX7_nextOnWalk 36 = .ok (.ifCond .eq 35, 3) := dd_get dm_X7_nextOnWalk_0 20 rfl
theorem dX7_nextOnWalk_39 : decode cX7_nextOnWalk 39 = .ok (.aload_n 0, 1) := dd_get dm_X7_nextOnWalk_0 21 rfl
theorem dX7_nextOnWalk_40 : decode cX7_nextOnWalk 40 = .ok (.getfield 18, 3) := dd_get dm_X7_nextOnWalk_0 22 rfl
theorem dX7_nextOnWalk_43 : decode cX7_nextOnWalk 43 = .ok (.iload 4, 2) := dd_get dm_X7_nextOnWalk_0 23 rfl
theorem dX7_nextOnWalk_45 : decode cX7_nextOnWalk 45 = .ok (.iaload, 1) := dd_get dm_X7_nextOnWalk_0 24 rfl
theorem dX7_nextOnWalk_46 : decode cX7_nextOnWalk 46 = .ok (.aload_n 2, 1) := dd_get dm_X7_nextOnWalk_0 25 rfl
theorem dX7_nextOnWalk_47 : decode cX7_nextOnWalk 47 = .ok (.iload 5, 2) := dd_get dm_X7_nextOnWalk_0 26 rfl
theorem dX7_nextOnWalk_49 : decode cX7_nextOnWalk 49 = .ok (.iaload, 1) := dd_get dm_X7_nextOnWalk_0 27 rfl
theorem dX7_nextOnWalk_50 : decode cX7_nextOnWalk 50 = .ok (.iadd, 1) := dd_get dm_X7_nextOnWalk_0 28 rfl
theorem dX7_nextOnWalk_51 : decode cX7_nextOnWalk 51 = .ok (.aload_n 2, 1) := dd_get dm_X7_nextOnWalk_0 29 rfl
theorem dX7_nextOnWalk_52 : decode cX7_nextOnWalk 52 = .ok (.iload_n 1, 1) := dd_get dm_X7_nextOnWalk_0 30 rfl
theorem dX7_nextOnWalk_53 : decode cX7_nextOnWalk 53 = .ok (.iaload, 1) := dd_get dm_X7_nextOnWalk_0 31 rfl
theorem dX7_nextOnWalk_54 : decode cX7_nextOnWalk 54 = .ok (.if_icmp .ne 17, 3) := dd_get dm_X7_nextOnWalk_0 32 rfl
theorem dX7_nextOnWalk_57 : decode cX7_nextOnWalk 57 = .ok (.iload_n 3, 1) := dd_get dm_X7_nextOnWalk_0 33 rfl
theorem dX7_nextOnWalk_58 : decode cX7_nextOnWalk 58 = .ok (.iload_n 1, 1) := dd_get dm_X7_nextOnWalk_0 34 rfl
theorem dX7_nextOnWalk_59 : decode cX7_nextOnWalk 59 = .ok (.if_icmp .eq 9, 3) := dd_get dm_X7_nextOnWalk_0 35 rfl
theorem dX7_nextOnWalk_62 : decode cX7_nextOnWalk 62 = .ok (.iload 5, 2) := dd_get dm_X7_nextOnWalk_0 36 rfl
theorem dX7_nextOnWalk_64 : decode cX7_nextOnWalk 64 = .ok (.iload_n 3, 1) := dd_get dm_X7_nextOnWalk_0 37 rfl
theorem dX7_nextOnWalk_65 : decode cX7_nextOnWalk 65 = .ok (.if_icmp .ge 6, 3) := dd_get dm_X7_nextOnWalk_0 38 rfl
theorem dX7_nextOnWalk_68 : decode cX7_nextOnWalk 68 = .ok (.iload 5, 2) := dd_get dm_X7_nextOnWalk_0 39 rfl
theorem dX7_nextOnWalk_70 : decode cX7_nextOnWalk 70 = .ok (.istore_n 3, 1) := dd_get dm_X7_nextOnWalk_0 40 rfl
theorem dX7_nextOnWalk_71 : decode cX7_nextOnWalk 71 = .ok (.iinc 4 1, 3) := dd_get dm_X7_nextOnWalk_0 41 rfl
theorem dX7_nextOnWalk_74 : decode cX7_nextOnWalk 74 = .ok (.goto (-69), 3) := dd_get dm_X7_nextOnWalk_0 42 rfl
theorem dX7_nextOnWalk_77 : decode cX7_nextOnWalk 77 = .ok (.iload_n 3, 1) := dd_get dm_X7_nextOnWalk_0 43 rfl
theorem dX7_nextOnWalk_78 : decode cX7_nextOnWalk 78 = .ok (.ireturn, 1) := dd_get dm_X7_nextOnWalk_0 44 rfl
theorem dm_X7_farEnd_0 : (([(0, .aload_n 0, 1), (1, .getfield 9, 3), (4, .iload_n 1, 1), (5, .iaload, 1), (6, .iload_n 2, 1), (7, .if_icmp .ne 10, 3), (10, .aload_n 0, 1), (11, .getfield 15, 3), (14, .iload_n 1, 1), (15, .iaload, 1), (16, .ireturn, 1), (17, .aload_n 0, 1), (18, .getfield 15, 3), (21, .iload_n 1, 1), (22, .iaload, 1), (23, .iload_n 2, 1), (24, .if_icmp .ne 12, 3), (27, .aload_n 0, 1), (28, .getfield 9, 3), (31, .iload_n 1, 1), (32, .iaload, 1), (33, .goto 4, 3), (36, .iconst (-1), 1), (37, .ireturn, 1)] : List (Nat × Instr × Nat)).all fun q => decide (decode cX7_farEnd q.1 = .ok (q.2.1, q.2.2))) = true := by decide +kernel
theorem dX7_farEnd_0 : decode cX7_farEnd 0 = .ok (.aload_n 0, 1) := dd_get dm_X7_farEnd_0 0 rfl
theorem dX7_farEnd_1 : decode cX7_farEnd 1 = .ok (.getfield 9, 3) := dd_get dm_X7_farEnd_0 1 rfl
theorem dX7_farEnd_4 : decode cX7_farEnd 4 = .ok (.iload_n 1, 1) := dd_get dm_X7_farEnd_0 2 rfl
theorem dX7_farEnd_5 : decode cX7_farEnd 5 = .ok (.iaload, 1) := dd_get dm_X7_farEnd_0 3 rfl
theorem dX7_farEnd_6 : decode cX7_farEnd 6 = .ok (.iload_n 2, 1) := dd_get dm_X7_farEnd_0 4 rfl
theorem dX7_farEnd_7 : decode cX7_farEnd 7 = .ok (.if_icmp .ne 10, 3) := dd_get dm_X7_farEnd_0 5 rfl
theorem dX7_farEnd_10 : decode cX7_farEnd 10 = .ok (.aload_n 0, 1) := dd_get dm_X7_farEnd_0 6 rfl
theorem dX7_farEnd_11 : decode cX7_farEnd 11 = .ok (.getfield 15, 3) := dd_get dm_X7_farEnd_0 7 rfl
theorem dX7_farEnd_14 : decode cX7_farEnd 14 = .ok (.iload_n 1, 1) := dd_get dm_X7_farEnd_0 8 rfl
theorem dX7_farEnd_15 : decode cX7_farEnd 15 = .ok (.iaload, 1) := dd_get dm_X7_farEnd_0 9 rfl
theorem dX7_farEnd_16 : decode cX7_farEnd 16 = .ok (.ireturn, 1) := dd_get dm_X7_farEnd_0 10 rfl
theorem dX7_farEnd_17 : decode cX7_farEnd 17 = .ok (.aload_n 0, 1) := dd_get dm_X7_farEnd_0 11 rfl
theorem dX7_farEnd_18 : decode cX7_farEnd 18 = .ok (.getfield 15, 3) := dd_get dm_X7_farEnd_0 12 rfl
theorem dX7_farEnd_21 : decode cX7_farEnd 21 = .ok (.iload_n 1, 1) := dd_get dm_X7_farEnd_0 13 rfl
theorem dX7_farEnd_22 : decode cX7_farEnd 22 = .ok (.iaload, 1) := dd_get dm_X7_farEnd_0 14 rfl
theorem dX7_farEnd_23 : decode cX7_farEnd 23 = .ok (.iload_n 2, 1) := dd_get dm_X7_farEnd_0 15 rfl
theorem dX7_farEnd_24 : decode cX7_farEnd 24 = .ok (.if_icmp .ne 12, 3) := dd_get dm_X7_farEnd_0 16 rfl
theorem dX7_farEnd_27 : decode cX7_farEnd 27 = .ok (.aload_n 0, 1) := dd_get dm_X7_farEnd_0 17 rfl
theorem dX7_farEnd_28 : decode cX7_farEnd 28 = .ok (.getfield 9, 3) := dd_get dm_X7_farEnd_0 18 rfl
theorem dX7_farEnd_31 : decode cX7_farEnd 31 = .ok (.iload_n 1, 1) := dd_get dm_X7_farEnd_0 19 rfl
theorem dX7_farEnd_32 : decode cX7_farEnd 32 = .ok (.iaload, 1) := dd_get dm_X7_farEnd_0 20 rfl
theorem dX7_farEnd_33 : decode cX7_farEnd 33 = .ok (.goto 4, 3) := dd_get dm_X7_farEnd_0 21 rfl
theorem dX7_farEnd_36 : decode cX7_farEnd 36 = .ok (.iconst (-1), 1) := dd_get dm_X7_farEnd_0 22 rfl
theorem dX7_farEnd_37 : decode cX7_farEnd 37 = .ok (.ireturn, 1) := dd_get dm_X7_farEnd_0 23 rfl
theorem dm_X8_init_0 : (([(0, .aload_n 0, 1), (1, .invokespecial 3, 3), (4, .aload_n 0, 1), (5, .bipush 66, 2), (7, .newarray .long, 2), (9, .putfield 9, 3), (12, .aload_n 0, 1), (13, .bipush 12, 2), (15, .newarray .int, 2), (17, .putfield 15, 3), (20, .aload_n 0, 1), (21, .bipush 12, 2), (23, .newarray .int, 2), (25, .putfield 19, 3), (28, .aload_n 0, 1), (29, .iconst 0, 1), (30, .putfield 22, 3), (33, .aload_n 0, 1), (34, .iconst 0, 1), (35, .putfield 26, 3), (38, .aload_n 0, 1), (39, .iconst 0, 1), (40, .putfield 29, 3), (43, .aload_n 0, 1), (44, .lconst 0, 1), (45, .putfield 32, 3), (48, .aload_n 0, 1), (49, .aload_n 1, 1), (50, .putfield 36, 3), (53, .aload_n 0, 1), (54, .aload_n 2, 1), (55, .putfield 40, 3), (58, .return_, 1)] : List (Nat × Instr × Nat)).all fun q => decide (decode cX8_init q.1 = .ok (q.2.1, q.2.2))) = true := by decide +kernel
theorem dX8_init_0 : decode cX8_init 0 = .ok (.aload_n 0, 1) := dd_get dm_X8_init_0 0 rfl
theorem dX8_init_1 : decode cX8_init 1 = .ok (.invokespecial 3, 3) := dd_get dm_X8_init_0 1 rfl
theorem dX8_init_4 : decode cX8_init 4 = .ok (.aload_n 0, 1) := dd_get dm_X8_init_0 2 rfl
theorem dX8_init_5 : decode cX8_init 5 = .ok (.bipush 66, 2) := dd_get dm_X8_init_0 3 rfl
theorem dX8_init_7 : decode cX8_init 7 = .ok (.newarray .long, 2) := dd_get dm_X8_init_0 4 rfl
theorem dX8_init_9 : decode cX8_init 9 = .ok (.putfield 9, 3) := dd_get dm_X8_init_0 5 rfl
theorem dX8_init_12 : decode cX8_init 12 = .ok (.aload_n 0, 1) := dd_get dm_X8_init_0 6 rfl
theorem dX8_init_13 : decode cX8_init 13 = .ok (.bipush 12, 2) := dd_get dm_X8_init_0 7 rfl
theorem dX8_init_15 : decode cX8_init 15 = .ok (.newarray .int, 2) := dd_get dm_X8_init_0 8 rfl
theorem dX8_init_17 : decode cX8_init 17 = .ok (.putfield 15, 3) := dd_get dm_X8_init_0 9 rfl
theorem dX8_init_20 : decode cX8_init 20 = .ok (.aload_n 0, 1) := dd_get dm_X8_init_0 10 rfl
theorem dX8_init_21 : decode cX8_init 21 = .ok (.bipush 12, 2) := dd_get dm_X8_init_0 11 rfl
theorem dX8_init_23 : decode cX8_init 23 = .ok (.newarray .int, 2) := dd_get dm_X8_init_0 12 rfl
theorem dX8_init_25 : decode cX8_init 25 = .ok (.putfield 19, 3) := dd_get dm_X8_init_0 13 rfl
theorem dX8_init_28 : decode cX8_init 28 = .ok (.aload_n 0, 1) := dd_get dm_X8_init_0 14 rfl
theorem dX8_init_29 : decode cX8_init 29 = .ok (.iconst 0, 1) := dd_get dm_X8_init_0 15 rfl
theorem dX8_init_30 : decode cX8_init 30 = .ok (.putfield 22, 3) := dd_get dm_X8_init_0 16 rfl
theorem dX8_init_33 : decode cX8_init 33 = .ok (.aload_n 0, 1) := dd_get dm_X8_init_0 17 rfl
theorem dX8_init_34 : decode cX8_init 34 = .ok (.iconst 0, 1) := dd_get dm_X8_init_0 18 rfl
theorem dX8_init_35 : decode cX8_init 35 = .ok (.putfield 26, 3) := dd_get dm_X8_init_0 19 rfl
theorem dX8_init_38 : decode cX8_init 38 = .ok (.aload_n 0, 1) := dd_get dm_X8_init_0 20 rfl
theorem dX8_init_39 : decode cX8_init 39 = .ok (.iconst 0, 1) := dd_get dm_X8_init_0 21 rfl
theorem dX8_init_40 : decode cX8_init 40 = .ok (.putfield 29, 3) := dd_get dm_X8_init_0 22 rfl
theorem dX8_init_43 : decode cX8_init 43 = .ok (.aload_n 0, 1) := dd_get dm_X8_init_0 23 rfl
theorem dX8_init_44 : decode cX8_init 44 = .ok (.lconst 0, 1) := dd_get dm_X8_init_0 24 rfl
theorem dX8_init_45 : decode cX8_init 45 = .ok (.putfield 32, 3) := dd_get dm_X8_init_0 25 rfl
theorem dX8_init_48 : decode cX8_init 48 = .ok (.aload_n 0, 1) := dd_get dm_X8_init_0 26 rfl
theorem dX8_init_49 : decode cX8_init 49 = .ok (.aload_n 1, 1) := dd_get dm_X8_init_0 27 rfl
theorem dX8_init_50 : decode cX8_init 50 = .ok (.putfield 36, 3) := dd_get dm_X8_init_0 28 rfl
theorem dX8_init_53 : decode cX8_init 53 = .ok (.aload_n 0, 1) := dd_get dm_X8_init_0 29 rfl
theorem dX8_init_54 : decode cX8_init 54 = .ok (.aload_n 2, 1) := dd_get dm_X8_init_0 30 rfl
theorem dX8_init_55 : decode cX8_init 55 = .ok (.putfield 40, 3) := dd_get dm_X8_init_0 31 rfl
theorem dX8_init_58 : decode cX8_init 58 = .ok (.return_, 1) := dd_get dm_X8_init_0 32 rfl
theorem dm_X8_rank_0 : (([(0, .aload_n 0, 1), (1, .iconst 0, 1), (2, .putfield 22, 3), (5, .iconst 0, 1), (6, .istore_n 1, 1), (7, .iload_n 1, 1), (8, .aload_n 0, 1), (9, .getfield 36, 3), (12, .getfield 44, 3), (15, .if_icmp .ge 77, 3), (18, .iload_n 1, 1), (19, .iconst 1, 1), (20, .iadd, 1), (21, .istore_n 2, 1), (22, .iload_n 2, 1), (23, .aload_n 0, 1), (24, .getfield 36, 3), (27, .getfield 44, 3), (30, .if_icmp .ge 56, 3), (33, .aload_n 0, 1), (34, .getfield 36, 3), (37, .iload_n 1, 1), (38, .invokevirtual 49, 3), (41, .ifCond .eq 39, 3), (44, .aload_n 0, 1), (45, .getfield 36, 3), (48, .iload_n 2, 1), (49, .invokevirtual 49, 3), (52, .ifCond .eq 28, 3), (55, .aload_n 0, 1), (56, .getfield 9, 3), (59, .aload_n 0, 1), (60, .getfield 22, 3), (63, .aload_n 0, 1), (64, .iload_n 1, 1), (65, .iload_n 2, 1), (66, .invokevirtual 53, 3), (69, .lastore, 1), (70, .aload_n 0, 1), (71, .dup, 1), (72, .getfield 22, 3), (75, .iconst 1, 1), (76, .iadd, 1), (77, .putfield 22, 3), (80, .iinc 2 1, 3), (83, .goto (-61), 3), (86, .iinc 1 1, 3), (89, .goto (-82), 3), (92, .aload_n 0, 1), (93, .invokevirtual 57, 3), (96, .return_, 1)] : List (Nat × Instr × Nat)).all fun q => decide (decode cX8_rank q.1 = .ok (q.2.1, q.2.2))) = true := by decide +kernel
theorem dX8_rank_0 : decode cX8_rank 0 = .ok (.aload_n 0, 1) := dd_get dm_X8_rank_0 0 rfl
theorem dX8_rank_1 : decode cX8_rank 1 = .ok (.iconst 0, 1) := dd_get dm_X8_rank_0 1 rfl
theorem dX8_rank_2 : decode cX8_rank 2 = .ok (.putfield 22, 3) := dd_get dm_X8_rank_0 2 rfl
theorem dX8_rank_5 : decode cX8_rank 5 = .ok (.iconst 0, 1) := dd_get dm_X8_rank_0 3 rfl
theorem dX8_rank_6 : decode cX8_rank 6 = .ok (.istore_n 1, 1) := dd_get dm_X8_rank_0 4 rfl
theorem dX8_rank_7 : decode cX8_rank 7 = .ok (.iload_n 1, 1) := dd_get dm_X8_rank_0 5 rfl
theorem dX8_rank_8 : decode cX8_rank 8 = .ok (.aload_n 0, 1) := dd_get dm_X8_rank_0 6 rfl
theorem dX8_rank_9 : decode cX8_rank 9 = .ok (.getfield 36, 3) := dd_get dm_X8_rank_0 7 rfl
theorem dX8_rank_12 : decode cX8_rank 12 = .ok (.getfield 44, 3) := dd_get dm_X8_rank_0 8 rfl
theorem dX8_rank_15 : decode cX8_rank 15 = .ok (.if_icmp .ge 77, 3) := dd_get dm_X8_rank_0 9 rfl
theorem dX8_rank_18 : decode cX8_rank 18 = .ok (.iload_n 1, 1) := dd_get dm_X8_rank_0 10 rfl
theorem dX8_rank_19 : decode cX8_rank 19 = .ok (.iconst 1, 1) := dd_get dm_X8_rank_0 11 rfl
theorem dX8_rank_20 : decode cX8_rank 20 = .ok (.iadd, 1) := dd_get dm_X8_rank_0 12 rfl
theorem dX8_rank_21 : decode cX8_rank 21 = .ok (.istore_n 2, 1) := dd_get dm_X8_rank_0 13 rfl
theorem dX8_rank_22 : decode cX8_rank 22 = .ok (.iload_n 2, 1) := dd_get dm_X8_rank_0 14 rfl
theorem dX8_rank_23 : decode cX8_rank 23 = .ok (.aload_n 0, 1) := dd_get dm_X8_rank_0 15 rfl
theorem dX8_rank_24 : decode cX8_rank 24 = .ok (.getfield 36, 3) := dd_get dm_X8_rank_0 16 rfl
theorem dX8_rank_27 : decode cX8_rank 27 = .ok (.getfield 44, 3) := dd_get dm_X8_rank_0 17 rfl
theorem dX8_rank_30 : decode cX8_rank 30 = .ok (.if_icmp .ge 56, 3) := dd_get dm_X8_rank_0 18 rfl
theorem dX8_rank_33 : decode cX8_rank 33 = .ok (.aload_n 0, 1) := dd_get dm_X8_rank_0 19 rfl
theorem dX8_rank_34 : decode cX8_rank 34 = .ok (.getfield 36, 3) := dd_get dm_X8_rank_0 20 rfl
theorem dX8_rank_37 : decode cX8_rank 37 = .ok (.iload_n 1, 1) := dd_get dm_X8_rank_0 21 rfl
theorem dX8_rank_38 : decode cX8_rank 38 = .ok (.invokevirtual 49, 3) := dd_get dm_X8_rank_0 22 rfl
theorem dX8_rank_41 : decode cX8_rank 41 = .ok (.ifCond .eq 39, 3) := dd_get dm_X8_rank_0 23 rfl
theorem dX8_rank_44 : decode cX8_rank 44 = .ok (.aload_n 0, 1) := dd_get dm_X8_rank_0 24 rfl
theorem dX8_rank_45 : decode cX8_rank 45 = .ok (.getfield 36, 3) := dd_get dm_X8_rank_0 25 rfl
theorem dX8_rank_48 : decode cX8_rank 48 = .ok (.iload_n 2, 1) := dd_get dm_X8_rank_0 26 rfl
theorem dX8_rank_49 : decode cX8_rank 49 = .ok (.invokevirtual 49, 3) := dd_get dm_X8_rank_0 27 rfl
theorem dX8_rank_52 : decode cX8_rank 52 = .ok (.ifCond .eq 28, 3) := dd_get dm_X8_rank_0 28 rfl
theorem dX8_rank_55 : decode cX8_rank 55 = .ok (.aload_n 0, 1) := dd_get dm_X8_rank_0 29 rfl
theorem dX8_rank_56 : decode cX8_rank 56 = .ok (.getfield 9, 3) := dd_get dm_X8_rank_0 30 rfl
theorem dX8_rank_59 : decode cX8_rank 59 = .ok (.aload_n 0, 1) := dd_get dm_X8_rank_0 31 rfl
theorem dX8_rank_60 : decode cX8_rank 60 = .ok (.getfield 22, 3) := dd_get dm_X8_rank_0 32 rfl
theorem dX8_rank_63 : decode cX8_rank 63 = .ok (.aload_n 0, 1) := dd_get dm_X8_rank_0 33 rfl
theorem dX8_rank_64 : decode cX8_rank 64 = .ok (.iload_n 1, 1) := dd_get dm_X8_rank_0 34 rfl
theorem dX8_rank_65 : decode cX8_rank 65 = .ok (.iload_n 2, 1) := dd_get dm_X8_rank_0 35 rfl
theorem dX8_rank_66 : decode cX8_rank 66 = .ok (.invokevirtual 53, 3) := dd_get dm_X8_rank_0 36 rfl
theorem dX8_rank_69 : decode cX8_rank 69 = .ok (.lastore, 1) := dd_get dm_X8_rank_0 37 rfl
theorem dX8_rank_70 : decode cX8_rank 70 = .ok (.aload_n 0, 1) := dd_get dm_X8_rank_0 38 rfl
theorem dX8_rank_71 : decode cX8_rank 71 = .ok (.dup, 1) := dd_get dm_X8_rank_0 39 rfl
theorem dX8_rank_72 : decode cX8_rank 72 = .ok (.getfield 22, 3) := dd_get dm_X8_rank_0 40 rfl
theorem dX8_rank_75 : decode cX8_rank 75 = .ok (.iconst 1, 1) := dd_get dm_X8_rank_0 41 rfl
theorem dX8_rank_76 : decode cX8_rank 76 = .ok (.iadd, 1) := dd_get dm_X8_rank_0 42 rfl
theorem dX8_rank_77 : decode cX8_rank 77 = .ok (.putfield 22, 3) := dd_get dm_X8_rank_0 43 rfl
theorem dX8_rank_80 : decode cX8_rank 80 = .ok (.iinc 2 1, 3) := dd_get dm_X8_rank_0 44 rfl
theorem dX8_rank_83 : decode cX8_rank 83 = .ok (.goto (-61), 3) := dd_get dm_X8_rank_0 45 rfl
theorem dX8_rank_86 : decode cX8_rank 86 = .ok (.iinc 1 1, 3) := dd_get dm_X8_rank_0 46 rfl
theorem dX8_rank_89 : decode cX8_rank 89 = .ok (.goto (-82), 3) := dd_get dm_X8_rank_0 47 rfl
theorem dX8_rank_92 : decode cX8_rank 92 = .ok (.aload_n 0, 1) := dd_get dm_X8_rank_0 48 rfl
theorem dX8_rank_93 : decode cX8_rank 93 = .ok (.invokevirtual 57, 3) := dd_get dm_X8_rank_0 49 rfl
theorem dX8_rank_96 : decode cX8_rank 96 = .ok (.return_, 1) := dd_get dm_X8_rank_0 50 rfl
theorem dm_X8_rankAnew_0 : (([(0, .iconst 0, 1), (1, .istore_n 1, 1), (2, .iload_n 1, 1), (3, .aload_n 0, 1), (4, .getfield 22, 3), (7, .if_icmp .ge 35, 3), (10, .aload_n 0, 1), (11, .getfield 9, 3), (14, .iload_n 1, 1), (15, .aload_n 0, 1), (16, .aload_n 0, 1), (17, .iload_n 1, 1), (18, .invokevirtual 60, 3), (21, .invokestatic 64, 3), (24, .aload_n 0, 1), (25, .iload_n 1, 1), (26, .invokevirtual 60, 3), (29, .invokestatic 67, 3), (32, .invokevirtual 53, 3), (35, .lastore, 1), (36, .iinc 1 1, 3), (39, .goto (-37), 3), (42, .aload_n 0, 1), (43, .invokevirtual 57, 3), (46, .return_, 1)] : List (Nat × Instr × Nat)).all fun q => decide (decode cX8_rankAnew q.1 = .ok (q.2.1, q.2.2))) = true := by decide +kernel
theorem dX8_rankAnew_0 : decode cX8_rankAnew 0 = .ok (.iconst 0, 1) := dd_get dm_X8_rankAnew_0 0 rfl
theorem dX8_rankAnew_1 : decode cX8_rankAnew 1 = .ok (.istore_n 1, 1) := dd_get dm_X8_rankAnew_0 1 rfl
theorem dX8_rankAnew_2 : decode cX8_rankAnew 2 = .ok (.iload_n 1, 1) := dd_get dm_X8_rankAnew_0 2 rfl
theorem dX8_rankAnew_3 : decode cX8_rankAnew 3 = .ok (.aload_n 0, 1) := dd_get dm_X8_rankAnew_0 3 rfl
theorem dX8_rankAnew_4 : decode cX8_rankAnew 4 = .ok (.getfield 22, 3) := dd_get dm_X8_rankAnew_0 4 rfl
theorem dX8_rankAnew_7 : decode cX8_rankAnew 7 = .ok (.if_icmp .ge 35, 3) := dd_get dm_X8_rankAnew_0 5 rfl
theorem dX8_rankAnew_10 : decode cX8_rankAnew 10 = .ok (.aload_n 0, 1) := dd_get dm_X8_rankAnew_0 6 rfl
theorem dX8_rankAnew_11 : decode cX8_rankAnew 11 = .ok (.getfield 9, 3) := dd_get dm_X8_rankAnew_0 7 rfl
theorem dX8_rankAnew_14 : decode cX8_rankAnew 14 = .ok (.iload_n 1, 1) := dd_get dm_X8_rankAnew_0 8 rfl
theorem dX8_rankAnew_15 : decode cX8_rankAnew 15 = .ok (.aload_n 0, 1) := dd_get dm_X8_rankAnew_0 9 rfl
theorem dX8_rankAnew_16 : decode cX8_rankAnew 16 = .ok (.aload_n 0, 1) := dd_get dm_X8_rankAnew_0 10 rfl
theorem dX8_rankAnew_17 : decode cX8_rankAnew 17 = .ok (.iload_n 1, 1) := dd_get dm_X8_rankAnew_0 11 rfl
theorem dX8_rankAnew_18 : decode cX8_rankAnew 18 = .ok (.invokevirtual 60, 3) := dd_get dm_X8_rankAnew_0 12 rfl
theorem dX8_rankAnew_21 : decode cX8_rankAnew 21 = .ok (.invokestatic 64, 3) := dd_get dm_X8_rankAnew_0 13 rfl
theorem dX8_rankAnew_24 : decode cX8_rankAnew 24 = .ok (.aload_n 0, 1) := dd_get dm_X8_rankAnew_0 14 rfl
theorem dX8_rankAnew_25 : decode cX8_rankAnew 25 = .ok (.iload_n 1, 1) := dd_get dm_X8_rankAnew_0 15 rfl
theorem dX8_rankAnew_26 : decode cX8_rankAnew 26 = .ok (.invokevirtual 60, 3) := dd_get dm_X8_rankAnew_0 16 rfl
theorem dX8_rankAnew_29 : decode cX8_rankAnew 29 = .ok (.invokestatic 67, 3) := dd_get dm_X8_rankAnew_0 17 rfl
theorem dX8_rankAnew_32 : decode cX8_rankAnew 32 = .ok (.invokevirtual 53, 3) := dd_get dm_X8_rankAnew_0 18 rfl
theorem dX8_rankAnew_35 : decode cX8_rankAnew 35 = .ok (.lastore, 1) := dd_get dm_X8_rankAnew_0 19 rfl
theorem dX8_rankAnew_36 : decode cX8_rankAnew 36 = .ok (.iinc 1 1, 3) := dd_get dm_X8_rankAnew_0 20 rfl
theorem dX8_rankAnew_39 : decode cX8_rankAnew 39 = .ok (.goto (-37), 3) := dd_get dm_X8_rankAnew_0 21 rfl
theorem dX8_rankAnew_42 : decode cX8_rankAnew 42 = .ok (.aload_n 0, 1) := dd_get dm_X8_rankAnew_0 22 rfl
theorem dX8_rankAnew_43 : decode cX8_rankAnew 43 = .ok (.invokevirtual 57, 3) := dd_get dm_X8_rankAnew_0 23 rfl
theorem dX8_rankAnew_46 : decode cX8_rankAnew 46 = .ok (.return_, 1) := dd_get dm_X8_rankAnew_0 24 rfl
theorem dm_X8_keyOf_0 : (([(0, .ldc2_w 70, 3), (3, .lstore_n 3, 1), (4, .aload_n 0, 1), (5, .getfield 36, 3), (8, .getfield 72, 3), (11, .iload_n 1, 1), (12, .aaload, 1), (13, .iload_n 2, 1), (14, .iaload, 1), (15, .ldc 76, 2), (17, .if_icmp .eq 38, 3), (20, .aload_n 0, 1), (21, .getfield 36, 3), (24, .getfield 72, 3), (27, .iload_n 1, 1), (28, .aaload, 1), (29, .iload_n 2, 1), (30, .iaload, 1), (31, .i2l, 1), (32, .aload_n 0, 1), (33, .getfield 36, 3), (36, .getfield 77, 3), (39, .iload_n 1, 1), (40, .iaload, 1), (41, .i2l, 1), (42, .ladd, 1), (43, .aload_n 0, 1), (44, .getfield 36, 3), (47, .getfield 77, 3), (50, .iload_n 2, 1), (51, .iaload, 1), (52, .i2l, 1), (53, .ladd, 1), (54, .lstore_n 3, 1), (55, .lload_n 3, 1), (56, .ldc2_w 80, 3), (59, .lmul, 1), (60, .iload_n 1, 1), (61, .iload_n 2, 1), (62, .invokestatic 82, 3), (65, .i2l, 1), (66, .ladd, 1), (67, .lreturn, 1)] : List (Nat × Instr × Nat)).all fun q => decide (decode cX8_keyOf q.1 = .ok (q.2.1, q.2.2))) = true := by decide +kernel
theorem dX8_keyOf_0 : decode cX8_keyOf 0 = .ok (.ldc2_w 70, 3) := dd_get dm_X8_keyOf_0 0 rfl
theorem dX8_keyOf_3 : decode cX8_keyOf 3 = .ok (.lstore_n 3, 1) := dd_get dm_X8_keyOf_0 1 rfl
theorem dX8_keyOf_4 : decode cX8_keyOf 4 = .ok (.aload_n 0, 1) := dd_get dm_X8_keyOf_0 2 rfl
theorem dX8_keyOf_5 : decode cX8_keyOf 5 = .ok (.getfield 36, 3) := dd_get dm_X8_keyOf_0 3 rfl
theorem dX8_keyOf_8 : decode cX8_keyOf 8 = .ok (.getfield 72, 3) := dd_get dm_X8_keyOf_0 4 rfl
theorem dX8_keyOf_11 : decode cX8_keyOf 11 = .ok (.iload_n 1, 1) := dd_get dm_X8_keyOf_0 5 rfl
theorem dX8_keyOf_12 : decode cX8_keyOf 12 = .ok (.aaload, 1) := dd_get dm_X8_keyOf_0 6 rfl
theorem dX8_keyOf_13 : decode cX8_keyOf 13 = .ok (.iload_n 2, 1) := dd_get dm_X8_keyOf_0 7 rfl
theorem dX8_keyOf_14 : decode cX8_keyOf 14 = .ok (.iaload, 1) := dd_get dm_X8_keyOf_0 8 rfl
theorem dX8_keyOf_15 : decode cX8_keyOf 15 = .ok (.ldc 76, 2) := dd_get dm_X8_keyOf_0 9 rfl
theorem dX8_keyOf_17 : decode cX8_keyOf 17 = .ok (.if_icmp .eq 38, 3) := dd_get dm_X8_keyOf_0 10 rfl
theorem dX8_keyOf_20 : decode cX8_keyOf 20 = .ok (.aload_n 0, 1) := dd_get dm_X8_keyOf_0 11 rfl
theorem dX8_keyOf_21 : decode cX8_keyOf 21 = .ok (.getfield 36, 3) := dd_get dm_X8_keyOf_0 12 rfl
theorem dX8_keyOf_24 : decode cX8_keyOf 24 = .ok (.getfield 72, 3) := dd_get dm_X8_keyOf_0 13 rfl
theorem dX8_keyOf_27 : decode cX8_keyOf 27 = .ok (.iload_n 1, 1) := dd_get dm_X8_keyOf_0 14 rfl
theorem dX8_keyOf_28 : decode cX8_keyOf 28 = .ok (.aaload, 1) := dd_get dm_X8_keyOf_0 15 rfl
theorem dX8_keyOf_29 : decode cX8_keyOf 29 = .ok (.iload_n 2, 1) := dd_get dm_X8_keyOf_0 16 rfl
theorem dX8_keyOf_30 : decode cX8_keyOf 30 = .ok (.iaload, 1) := dd_get dm_X8_keyOf_0 17 rfl
theorem dX8_keyOf_31 : decode cX8_keyOf 31 = .ok (.i2l, 1) := dd_get dm_X8_keyOf_0 18 rfl
theorem dX8_keyOf_32 : decode cX8_keyOf 32 = .ok (.aload_n 0, 1) := dd_get dm_X8_keyOf_0 19 rfl
theorem dX8_keyOf_33 : decode cX8_keyOf 33 = .ok (.getfield 36, 3) := dd_get dm_X8_keyOf_0 20 rfl
theorem dX8_keyOf_36 : decode cX8_keyOf 36 = .ok (.getfield 77, 3) := dd_get dm_X8_keyOf_0 21 rfl
theorem dX8_keyOf_39 : decode cX8_keyOf 39 = .ok (.iload_n 1, 1) := dd_get dm_X8_keyOf_0 22 rfl
theorem dX8_keyOf_40 : decode cX8_keyOf 40 = .ok (.iaload, 1) := dd_get dm_X8_keyOf_0 23 rfl
theorem dX8_keyOf_41 : decode cX8_keyOf 41 = .ok (.i2l, 1) := dd_get dm_X8_keyOf_0 24 rfl
theorem dX8_keyOf_42 : decode cX8_keyOf 42 = .ok (.ladd, 1) := dd_get dm_X8_keyOf_0 25 rfl
theorem dX8_keyOf_43 : decode cX8_keyOf 43 = .ok (.aload_n 0, 1) := dd_get dm_X8_keyOf_0 26 rfl
theorem dX8_keyOf_44 : decode cX8_keyOf 44 = .ok (.getfield 36, 3) := dd_get dm_X8_keyOf_0 27 rfl
theorem dX8_keyOf_47 : decode cX8_keyOf 47 = .ok (.getfield 77, 3) := dd_get dm_X8_keyOf_0 28 rfl
theorem dX8_keyOf_50 : decode cX8_keyOf 50 = .ok (.iload_n 2, 1) := dd_get dm_X8_keyOf_0 29 rfl
theorem dX8_keyOf_51 : decode cX8_keyOf 51 = .ok (.iaload, 1) := dd_get dm_X8_keyOf_0 30 rfl
theorem dX8_keyOf_52 : decode cX8_keyOf 52 = .ok (.i2l, 1) := dd_get dm_X8_keyOf_0 31 rfl
theorem dX8_keyOf_53 : decode cX8_keyOf 53 = .ok (.ladd, 1) := dd_get dm_X8_keyOf_0 32 rfl
theorem dX8_keyOf_54 : decode cX8_keyOf 54 = .ok (.lstore_n 3, 1) := dd_get dm_X8_keyOf_0 33 rfl
theorem dX8_keyOf_55 : decode cX8_keyOf 55 = .ok (.lload_n 3, 1) := dd_get dm_X8_keyOf_0 34 rfl
theorem dX8_keyOf_56 : decode cX8_keyOf 56 = .ok (.ldc2_w 80, 3) := dd_get dm_X8_keyOf_0 35 rfl
theorem dX8_keyOf_59 : decode cX8_keyOf 59 = .ok (.lmul, 1) := dd_get dm_X8_keyOf_0 36 rfl
theorem dX8_keyOf_60 : decode cX8_keyOf 60 = .ok (.iload_n 1, 1) := dd_get dm_X8_keyOf_0 37 rfl
theorem dX8_keyOf_61 : decode cX8_keyOf 61 = .ok (.iload_n 2, 1) := dd_get dm_X8_keyOf_0 38 rfl
theorem dX8_keyOf_62 : decode cX8_keyOf 62 = .ok (.invokestatic 82, 3) := dd_get dm_X8_keyOf_0 39 rfl
theorem dX8_keyOf_65 : decode cX8_keyOf 65 = .ok (.i2l, 1) := dd_get dm_X8_keyOf_0 40 rfl
theorem dX8_keyOf_66 : decode cX8_keyOf 66 = .ok (.ladd, 1) := dd_get dm_X8_keyOf_0 41 rfl
theorem dX8_keyOf_67 : decode cX8_keyOf 67 = .ok (.lreturn, 1) := dd_get dm_X8_keyOf_0 42 rfl
theorem dm_X8_sort_0 : (([(0, .iconst 1, 1), (1, .istore_n 1, 1), (2, .iload_n 1, 1), (3, .aload_n 0, 1), (4, .getfield 22, 3), (7, .if_icmp .ge 68, 3), (10, .aload_n 0, 1), (11, .getfield 9, 3), (14, .iload_n 1, 1), (15, .laload, 1), (16, .lstore_n 2, 1), (17, .iload_n 1, 1), (18, .istore 4, 2), (20, .iload 4, 2), (22, .ifCond .le 39, 3), (25, .aload_n 0, 1), (26, .getfield 9, 3), (29, .iload 4, 2), (31, .iconst 1, 1), (32, .isub, 1), (33, .laload, 1), (34, .lload_n 2, 1), (35, .lcmp, 1), (36, .ifCond .le 25, 3), (39, .aload_n 0, 1), (40, .getfield 9, 3), (43, .iload 4, 2), (45, .aload_n 0, 1), (46, .getfield 9, 3), (49, .iload 4, 2), (51, .iconst 1, 1), (52, .isub, 1), (53, .laload, 1), (54, .lastore, 1), (55, .iinc 4 (-1), 3), (58, .goto (-38), 3), (61, .aload_n 0, 1), (62, .getfield 9, 3), (65, .iload 4, 2), (67, .lload_n 2, 1), (68, .lastore, 1), (69, .iinc 1 1, 3), (72, .goto (-70), 3), (75, .return_, 1)] : List (Nat × Instr × Nat)).all fun q => decide (decode cX8_sort q.1 = .ok (q.2.1, q.2.2))) = true := by decide +kernel
theorem dX8_sort_0 : decode cX8_sort 0 = .ok (.iconst 1, 1) := dd_get dm_X8_sort_0 0 rfl
theorem dX8_sort_1 : decode cX8_sort 1 = .ok (.istore_n 1, 1) := dd_get dm_X8_sort_0 1 rfl
theorem dX8_sort_2 : decode cX8_sort 2 = .ok (.iload_n 1, 1) := dd_get dm_X8_sort_0 2 rfl
theorem dX8_sort_3 : decode cX8_sort 3 = .ok (.aload_n 0, 1) := dd_get dm_X8_sort_0 3 rfl
theorem dX8_sort_4 : decode cX8_sort 4 = .ok (.getfield 22, 3) := dd_get dm_X8_sort_0 4 rfl
theorem dX8_sort_7 : decode cX8_sort 7 = .ok (.if_icmp .ge 68, 3) := dd_get dm_X8_sort_0 5 rfl
theorem dX8_sort_10 : decode cX8_sort 10 = .ok (.aload_n 0, 1) := dd_get dm_X8_sort_0 6 rfl
theorem dX8_sort_11 : decode cX8_sort 11 = .ok (.getfield 9, 3) := dd_get dm_X8_sort_0 7 rfl
theorem dX8_sort_14 : decode cX8_sort 14 = .ok (.iload_n 1, 1) := dd_get dm_X8_sort_0 8 rfl
theorem dX8_sort_15 : decode cX8_sort 15 = .ok (.laload, 1) := dd_get dm_X8_sort_0 9 rfl
theorem dX8_sort_16 : decode cX8_sort 16 = .ok (.lstore_n 2, 1) := dd_get dm_X8_sort_0 10 rfl
theorem dX8_sort_17 : decode cX8_sort 17 = .ok (.iload_n 1, 1) := dd_get dm_X8_sort_0 11 rfl
theorem dX8_sort_18 : decode cX8_sort 18 = .ok (.istore 4, 2) := dd_get dm_X8_sort_0 12 rfl
theorem dX8_sort_20 : decode cX8_sort 20 = .ok (.iload 4, 2) := dd_get dm_X8_sort_0 13 rfl
theorem dX8_sort_22 : decode cX8_sort 22 = .ok (.ifCond .le 39, 3) := dd_get dm_X8_sort_0 14 rfl
theorem dX8_sort_25 : decode cX8_sort 25 = .ok (.aload_n 0, 1) := dd_get dm_X8_sort_0 15 rfl
theorem dX8_sort_26 : decode cX8_sort 26 = .ok (.getfield 9, 3) := dd_get dm_X8_sort_0 16 rfl
theorem dX8_sort_29 : decode cX8_sort 29 = .ok (.iload 4, 2) := dd_get dm_X8_sort_0 17 rfl
theorem dX8_sort_31 : decode cX8_sort 31 = .ok (.iconst 1, 1) := dd_get dm_X8_sort_0 18 rfl
theorem dX8_sort_32 : decode cX8_sort 32 = .ok (.isub, 1) := dd_get dm_X8_sort_0 19 rfl
theorem dX8_sort_33 : decode cX8_sort 33 = .ok (.laload, 1) := dd_get dm_X8_sort_0 20 rfl
theorem dX8_sort_34 : decode cX8_sort 34 = .ok (.lload_n 2, 1) := dd_get dm_X8_sort_0 21 rfl
theorem dX8_sort_35 : decode cX8_sort 35 = .ok (.lcmp, 1) := dd_get dm_X8_sort_0 22 rfl
theorem dX8_sort_36 : decode cX8_sort 36 = .ok (.ifCond .le 25, 3) := dd_get dm_X8_sort_0 23 rfl
theorem dX8_sort_39 : decode cX8_sort 39 = .ok (.aload_n 0, 1) := dd_get dm_X8_sort_0 24 rfl
theorem dX8_sort_40 : decode cX8_sort 40 = .ok (.getfield 9, 3) := dd_get dm_X8_sort_0 25 rfl
theorem dX8_sort_43 : decode cX8_sort 43 = .ok (.iload 4, 2) := dd_get dm_X8_sort_0 26 rfl
theorem dX8_sort_45 : decode cX8_sort 45 = .ok (.aload_n 0, 1) := dd_get dm_X8_sort_0 27 rfl
theorem dX8_sort_46 : decode cX8_sort 46 = .ok (.getfield 9, 3) := dd_get dm_X8_sort_0 28 rfl
theorem dX8_sort_49 : decode cX8_sort 49 = .ok (.iload 4, 2) := dd_get dm_X8_sort_0 29 rfl
theorem dX8_sort_51 : decode cX8_sort 51 = .ok (.iconst 1, 1) := dd_get dm_X8_sort_0 30 rfl
theorem dX8_sort_52 : decode cX8_sort 52 = .ok (.isub, 1) := dd_get dm_X8_sort_0 31 rfl
theorem dX8_sort_53 : decode cX8_sort 53 = .ok (.laload, 1) := dd_get dm_X8_sort_0 32 rfl
theorem dX8_sort_54 : decode cX8_sort 54 = .ok (.lastore, 1) := dd_get dm_X8_sort_0 33 rfl
theorem dX8_sort_55 : decode cX8_sort 55 = .ok (.iinc 4 (-1), 3) := dd_get dm_X8_sort_0 34 rfl
theorem dX8_sort_58 : decode cX8_sort 58 = .ok (.goto (-38), 3) := dd_get dm_X8_sort_0 35 rfl
theorem dX8_sort_61 : decode cX8_sort 61 = .ok (.aload_n 0, 1) := dd_get dm_X8_sort_0 36 rfl
theorem dX8_sort_62 : decode cX8_sort 62 = .ok (.getfield 9, 3) := dd_get dm_X8_sort_0 37 rfl
theorem dX8_sort_65 : decode cX8_sort 65 = .ok (.iload 4, 2) := dd_get dm_X8_sort_0 38 rfl
theorem dX8_sort_67 : decode cX8_sort 67 = .ok (.lload_n 2, 1) := dd_get dm_X8_sort_0 39 rfl
theorem dX8_sort_68 : decode cX8_sort 68 = .ok (.lastore, 1) := dd_get dm_X8_sort_0 40 rfl
theorem dX8_sort_69 : decode cX8_sort 69 = .ok (.iinc 1 1, 3) := dd_get dm_X8_sort_0 41 rfl
theorem dX8_sort_72 : decode cX8_sort 72 = .ok (.goto (-70), 3) := dd_get dm_X8_sort_0 42 rfl
theorem dX8_sort_75 : decode cX8_sort 75 = .ok (.return_, 1) := dd_get dm_X8_sort_0 43 rfl
theorem dm_X8_pairAt_0 : (([(0, .aload_n 0, 1), (1, .getfield 9, 3), (4, .iload_n 1, 1), (5, .laload, 1), (6, .ldc2_w 86, 3), (9, .land, 1), (10, .l2i, 1), (11, .ireturn, 1)] : List (Nat × Instr × Nat)).all fun q => decide (decode cX8_pairAt q.1 = .ok (q.2.1, q.2.2))) = true := by decide +kernel
theorem dX8_pairAt_0 : decode cX8_pairAt 0 = .ok (.aload_n 0, 1) := dd_get dm_X8_pairAt_0 0 rfl
theorem dX8_pairAt_1 : decode cX8_pairAt 1 = .ok (.getfield 9, 3) := dd_get dm_X8_pairAt_0 1 rfl
theorem dX8_pairAt_4 : decode cX8_pairAt 4 = .ok (.iload_n 1, 1) := dd_get dm_X8_pairAt_0 2 rfl
theorem dX8_pairAt_5 : decode cX8_pairAt 5 = .ok (.laload, 1) := dd_get dm_X8_pairAt_0 3 rfl
theorem dX8_pairAt_6 : decode cX8_pairAt 6 = .ok (.ldc2_w 86, 3) := dd_get dm_X8_pairAt_0 4 rfl
theorem dX8_pairAt_9 : decode cX8_pairAt 9 = .ok (.land, 1) := dd_get dm_X8_pairAt_0 5 rfl
theorem dX8_pairAt_10 : decode cX8_pairAt 10 = .ok (.l2i, 1) := dd_get dm_X8_pairAt_0 6 rfl
theorem dX8_pairAt_11 : decode cX8_pairAt 11 = .ok (.ireturn, 1) := dd_get dm_X8_pairAt_0 7 rfl
theorem dm_X8_pricedAt_0 : (([(0, .aload_n 0, 1), (1, .getfield 9, 3), (4, .iload_n 1, 1), (5, .laload, 1), (6, .bipush 8, 2), (8, .lshr, 1), (9, .lreturn, 1)] : List (Nat × Instr × Nat)).all fun q => decide (decode cX8_pricedAt q.1 = .ok (q.2.1, q.2.2))) = true := by decide +kernel
theorem dX8_pricedAt_0 : decode cX8_pricedAt 0 = .ok (.aload_n 0, 1) := dd_get dm_X8_pricedAt_0 0 rfl
theorem dX8_pricedAt_1 : decode cX8_pricedAt 1 = .ok (.getfield 9, 3) := dd_get dm_X8_pricedAt_0 1 rfl
theorem dX8_pricedAt_4 : decode cX8_pricedAt 4 = .ok (.iload_n 1, 1) := dd_get dm_X8_pricedAt_0 2 rfl
theorem dX8_pricedAt_5 : decode cX8_pricedAt 5 = .ok (.laload, 1) := dd_get dm_X8_pricedAt_0 3 rfl
theorem dX8_pricedAt_6 : decode cX8_pricedAt 6 = .ok (.bipush 8, 2) := dd_get dm_X8_pricedAt_0 4 rfl
theorem dX8_pricedAt_8 : decode cX8_pricedAt 8 = .ok (.lshr, 1) := dd_get dm_X8_pricedAt_0 5 rfl
theorem dX8_pricedAt_9 : decode cX8_pricedAt 9 = .ok (.lreturn, 1) := dd_get dm_X8_pricedAt_0 6 rfl
theorem dm_X8_firstFreePair_0 : (([(0, .iconst 0, 1), (1, .istore_n 1, 1), (2, .iload_n 1, 1), (3, .aload_n 0, 1), (4, .getfield 22, 3), (7, .if_icmp .ge 35, 3), (10, .aload_n 0, 1), (11, .iload_n 1, 1), (12, .invokevirtual 60, 3), (15, .istore_n 2, 1), (16, .aload_n 0, 1), (17, .getfield 40, 3), (20, .iload_n 2, 1), (21, .invokestatic 64, 3), (24, .iload_n 2, 1), (25, .invokestatic 67, 3), (28, .invokevirtual 88, 3), (31, .ifCond .eq 5, 3), (34, .iload_n 2, 1), (35, .ireturn, 1), (36, .iinc 1 1, 3), (39, .goto (-37), 3), (42, .iconst (-1), 1), (43, .ireturn, 1)] : List (Nat × Instr × Nat)).all fun q => decide (decode cX8_firstFreePair q.1 = .ok (q.2.1, q.2.2))) = true := by decide +kernel
theorem dX8_firstFreePair_0 : decode cX8_firstFreePair 0 = .ok (.iconst 0, 1) := dd_get dm_X8_firstFreePair_0 0 rfl
theorem dX8_firstFreePair_1 : decode cX8_firstFreePair 1 = .ok (.istore_n 1, 1) := dd_get dm_X8_firstFreePair_0 1 rfl
theorem dX8_firstFreePair_2 : decode cX8_firstFreePair 2 = .ok (.iload_n 1, 1) := dd_get dm_X8_firstFreePair_0 2 rfl
theorem dX8_firstFreePair_3 : decode cX8_firstFreePair 3 = .ok (.aload_n 0, 1) := dd_get dm_X8_firstFreePair_0 3 rfl
theorem dX8_firstFreePair_4 : decode cX8_firstFreePair 4 = .ok (.getfield 22, 3) := dd_get dm_X8_firstFreePair_0 4 rfl
theorem dX8_firstFreePair_7 : decode cX8_firstFreePair 7 = .ok (.if_icmp .ge 35, 3) := dd_get dm_X8_firstFreePair_0 5 rfl
theorem dX8_firstFreePair_10 : decode cX8_firstFreePair 10 = .ok (.aload_n 0, 1) := dd_get dm_X8_firstFreePair_0 6 rfl
theorem dX8_firstFreePair_11 : decode cX8_firstFreePair 11 = .ok (.iload_n 1, 1) := dd_get dm_X8_firstFreePair_0 7 rfl
theorem dX8_firstFreePair_12 : decode cX8_firstFreePair 12 = .ok (.invokevirtual 60, 3) := dd_get dm_X8_firstFreePair_0 8 rfl
theorem dX8_firstFreePair_15 : decode cX8_firstFreePair 15 = .ok (.istore_n 2, 1) := dd_get dm_X8_firstFreePair_0 9 rfl
theorem dX8_firstFreePair_16 : decode cX8_firstFreePair 16 = .ok (.aload_n 0, 1) := dd_get dm_X8_firstFreePair_0 10 rfl
theorem dX8_firstFreePair_17 : decode cX8_firstFreePair 17 = .ok (.getfield 40, 3) := dd_get dm_X8_firstFreePair_0 11 rfl
theorem dX8_firstFreePair_20 : decode cX8_firstFreePair 20 = .ok (.iload_n 2, 1) := dd_get dm_X8_firstFreePair_0 12 rfl
theorem dX8_firstFreePair_21 : decode cX8_firstFreePair 21 = .ok (.invokestatic 64, 3) := dd_get dm_X8_firstFreePair_0 13 rfl
theorem dX8_firstFreePair_24 : decode cX8_firstFreePair 24 = .ok (.iload_n 2, 1) := dd_get dm_X8_firstFreePair_0 14 rfl
theorem dX8_firstFreePair_25 : decode cX8_firstFreePair 25 = .ok (.invokestatic 67, 3) := dd_get dm_X8_firstFreePair_0 15 rfl
theorem dX8_firstFreePair_28 : decode cX8_firstFreePair 28 = .ok (.invokevirtual 88, 3) := dd_get dm_X8_firstFreePair_0 16 rfl
theorem dX8_firstFreePair_31 : decode cX8_firstFreePair 31 = .ok (.ifCond .eq 5, 3) := dd_get dm_X8_firstFreePair_0 17 rfl
theorem dX8_firstFreePair_34 : decode cX8_firstFreePair 34 = .ok (.iload_n 2, 1) := dd_get dm_X8_firstFreePair_0 18 rfl
theorem dX8_firstFreePair_35 : decode cX8_firstFreePair 35 = .ok (.ireturn, 1) := dd_get dm_X8_firstFreePair_0 19 rfl
theorem dX8_firstFreePair_36 : decode cX8_firstFreePair 36 = .ok (.iinc 1 1, 3) := dd_get dm_X8_firstFreePair_0 20 rfl
theorem dX8_firstFreePair_39 : decode cX8_firstFreePair 39 = .ok (.goto (-37), 3) := dd_get dm_X8_firstFreePair_0 21 rfl
theorem dX8_firstFreePair_42 : decode cX8_firstFreePair 42 = .ok (.iconst (-1), 1) := dd_get dm_X8_firstFreePair_0 22 rfl
theorem dX8_firstFreePair_43 : decode cX8_firstFreePair 43 = .ok (.ireturn, 1) := dd_get dm_X8_firstFreePair_0 23 rfl
theorem dm_X8_grow_0 : (([(0, .aload_n 0, 1), (1, .iconst 0, 1), (2, .putfield 26, 3), (5, .aload_n 0, 1), (6, .iconst 0, 1), (7, .putfield 29, 3), (10, .aload_n 0, 1), (11, .lconst 0, 1), (12, .putfield 32, 3), (15, .iconst 0, 1), (16, .istore_n 1, 1), (17, .iload_n 1, 1), (18, .bipush 12, 2), (20, .if_icmp .ge 18, 3), (23, .aload_n 0, 1), (24, .getfield 19, 3), (27, .iload_n 1, 1), (28, .iconst 1, 1), (29, .iload_n 1, 1), (30, .ishl, 1), (31, .iastore, 1), (32, .iinc 1 1, 3), (35, .goto (-18), 3), (38, .aload_n 0, 1), (39, .getfield 36, 3), (42, .invokevirtual 94, 3), (45, .istore_n 1, 1), (46, .aload_n 0, 1), (47, .iload_n 1, 1), (48, .iconst 1, 1), (49, .invokevirtual 98, 3), (52, .aload_n 0, 1), (53, .iload_n 1, 1), (54, .iconst 0, 1), (55, .invokevirtual 98, 3), (58, .aload_n 0, 1), (59, .iload_n 1, 1), (60, .iconst 1, 1), (61, .invokevirtual 102, 3), (64, .aload_n 0, 1), (65, .iload_n 1, 1), (66, .iconst 0, 1), (67, .invokevirtual 102, 3), (70, .return_, 1)] : List (Nat × Instr × Nat)).all fun q => decide (decode cX8_grow q.1 = .ok (q.2.1, q.2.2))) = true := by decide +kernel
theorem dX8_grow_0 : decode cX8_grow 0 = .ok (.aload_n 0, 1) := dd_get dm_X8_grow_0 0 rfl
theorem dX8_grow_1 : decode cX8_grow 1 = .ok (.iconst 0, 1) := dd_get dm_X8_grow_0 1 rfl
theorem dX8_grow_2 : decode cX8_grow 2 = .ok (.putfield 26, 3) := dd_get dm_X8_grow_0 2 rfl
theorem dX8_grow_5 : decode cX8_grow 5 = .ok (.aload_n 0, 1) := dd_get dm_X8_grow_0 3 rfl
theorem dX8_grow_6 : decode cX8_grow 6 = .ok (.iconst 0, 1) := dd_get dm_X8_grow_0 4 rfl
theorem dX8_grow_7 : decode cX8_grow 7 = .ok (.putfield 29, 3) := dd_get dm_X8_grow_0 5 rfl
theorem dX8_grow_10 : decode cX8_grow 10 = .ok (.aload_n 0, 1) := dd_get dm_X8_grow_0 6 rfl
theorem dX8_grow_11 : decode cX8_grow 11 = .ok (.lconst 0, 1) := dd_get dm_X8_grow_0 7 rfl
theorem dX8_grow_12 : decode cX8_grow 12 = .ok (.putfield 32, 3) := dd_get dm_X8_grow_0 8 rfl
theorem dX8_grow_15 : decode cX8_grow 15 = .ok (.iconst 0, 1) := dd_get dm_X8_grow_0 9 rfl
theorem dX8_grow_16 : decode cX8_grow 16 = .ok (.istore_n 1, 1) := dd_get dm_X8_grow_0 10 rfl
theorem dX8_grow_17 : decode cX8_grow 17 = .ok (.iload_n 1, 1) := dd_get dm_X8_grow_0 11 rfl
theorem dX8_grow_18 : decode cX8_grow 18 = .ok (.bipush 12, 2) := dd_get dm_X8_grow_0 12 rfl
theorem dX8_grow_20 : decode cX8_grow 20 = .ok (.if_icmp .ge 18, 3) := dd_get dm_X8_grow_0 13 rfl
theorem dX8_grow_23 : decode cX8_grow 23 = .ok (.aload_n 0, 1) := dd_get dm_X8_grow_0 14 rfl
theorem dX8_grow_24 : decode cX8_grow 24 = .ok (.getfield 19, 3) := dd_get dm_X8_grow_0 15 rfl
theorem dX8_grow_27 : decode cX8_grow 27 = .ok (.iload_n 1, 1) := dd_get dm_X8_grow_0 16 rfl
theorem dX8_grow_28 : decode cX8_grow 28 = .ok (.iconst 1, 1) := dd_get dm_X8_grow_0 17 rfl
theorem dX8_grow_29 : decode cX8_grow 29 = .ok (.iload_n 1, 1) := dd_get dm_X8_grow_0 18 rfl
theorem dX8_grow_30 : decode cX8_grow 30 = .ok (.ishl, 1) := dd_get dm_X8_grow_0 19 rfl
theorem dX8_grow_31 : decode cX8_grow 31 = .ok (.iastore, 1) := dd_get dm_X8_grow_0 20 rfl
theorem dX8_grow_32 : decode cX8_grow 32 = .ok (.iinc 1 1, 3) := dd_get dm_X8_grow_0 21 rfl
theorem dX8_grow_35 : decode cX8_grow 35 = .ok (.goto (-18), 3) := dd_get dm_X8_grow_0 22 rfl
theorem dX8_grow_38 : decode cX8_grow 38 = .ok (.aload_n 0, 1) := dd_get dm_X8_grow_0 23 rfl
theorem dX8_grow_39 : decode cX8_grow 39 = .ok (.getfield 36, 3) := dd_get dm_X8_grow_0 24 rfl
theorem dX8_grow_42 : decode cX8_grow 42 = .ok (.invokevirtual 94, 3) := dd_get dm_X8_grow_0 25 rfl
theorem dX8_grow_45 : decode cX8_grow 45 = .ok (.istore_n 1, 1) := dd_get dm_X8_grow_0 26 rfl
theorem dX8_grow_46 : decode cX8_grow 46 = .ok (.aload_n 0, 1) := dd_get dm_X8_grow_0 27 rfl
theorem dX8_grow_47 : decode cX8_grow 47 = .ok (.iload_n 1, 1) := dd_get dm_X8_grow_0 28 rfl
theorem dX8_grow_48 : decode cX8_grow 48 = .ok (.iconst 1, 1) := dd_get dm_X8_grow_0 29 rfl
theorem dX8_grow_49 : decode cX8_grow 49 = .ok (.invokevirtual 98, 3) := dd_get dm_X8_grow_0 30 rfl
theorem dX8_grow_52 : decode cX8_grow 52 = .ok (.aload_n 0, 1) := dd_get dm_X8_grow_0 31 rfl
theorem dX8_grow_53 : decode cX8_grow 53 = .ok (.iload_n 1, 1) := dd_get dm_X8_grow_0 32 rfl
theorem dX8_grow_54 : decode cX8_grow 54 = .ok (.iconst 0, 1) := dd_get dm_X8_grow_0 33 rfl
theorem dX8_grow_55 : decode cX8_grow 55 = .ok (.invokevirtual 98, 3) := dd_get dm_X8_grow_0 34 rfl
theorem dX8_grow_58 : decode cX8_grow 58 = .ok (.aload_n 0, 1) := dd_get dm_X8_grow_0 35 rfl
theorem dX8_grow_59 : decode cX8_grow 59 = .ok (.iload_n 1, 1) := dd_get dm_X8_grow_0 36 rfl
theorem dX8_grow_60 : decode cX8_grow 60 = .ok (.iconst 1, 1) := dd_get dm_X8_grow_0 37 rfl
theorem dX8_grow_61 : decode cX8_grow 61 = .ok (.invokevirtual 102, 3) := dd_get dm_X8_grow_0 38 rfl
theorem dX8_grow_64 : decode cX8_grow 64 = .ok (.aload_n 0, 1) := dd_get dm_X8_grow_0 39 rfl
theorem dX8_grow_65 : decode cX8_grow 65 = .ok (.iload_n 1, 1) := dd_get dm_X8_grow_0 40 rfl
theorem dX8_grow_66 : decode cX8_grow 66 = .ok (.iconst 0, 1) := dd_get dm_X8_grow_0 41 rfl
theorem dX8_grow_67 : decode cX8_grow 67 = .ok (.invokevirtual 102, 3) := dd_get dm_X8_grow_0 42 rfl
theorem dX8_grow_70 : decode cX8_grow 70 = .ok (.return_, 1) := dd_get dm_X8_grow_0 43 rfl
theorem dm_X8_takeOthers_0 : (([(0, .aload_n 0, 1), (1, .getfield 36, 3), (4, .invokevirtual 105, 3), (7, .iconst 2, 1), (8, .isub, 1), (9, .istore_n 3, 1), (10, .iconst 0, 1), (11, .istore 4, 2), (13, .iload 4, 2), (15, .aload_n 0, 1), (16, .getfield 22, 3), (19, .if_icmp .ge 76, 3), (22, .aload_n 0, 1), (23, .getfield 26, 3), (26, .iload_n 3, 1), (27, .if_icmp .ge 68, 3), (30, .aload_n 0, 1), (31, .iload 4, 2), (33, .invokevirtual 60, 3), (36, .invokestatic 64, 3), (39, .istore 5, 2), (41, .aload_n 0, 1), (42, .iload 4, 2), (44, .invokevirtual 60, 3), (47, .invokestatic 67, 3), (50, .istore 6, 2), (52, .iload 5, 2), (54, .iload_n 1, 1), (55, .if_icmp .eq 34, 3), (58, .aload_n 0, 1), (59, .getfield 19, 3), (62, .iload 5, 2), (64, .iaload, 1), (65, .iload 6, 2), (67, .invokestatic 108, 3), (70, .ifCond .ne 19, 3), (73, .aload_n 0, 1), (74, .iload 4, 2), (76, .iload_n 2, 1), (77, .invokevirtual 111, 3), (80, .ifCond .eq 9, 3), (83, .aload_n 0, 1), (84, .iload 4, 2), (86, .invokevirtual 115, 3), (89, .iinc 4 1, 3), (92, .goto (-79), 3), (95, .return_, 1)] : List (Nat × Instr × Nat)).all fun q => decide (decode cX8_takeOthers q.1 = .ok (q.2.1, q.2.2))) = true := by decide +kernel
theorem dX8_takeOthers_0 : decode cX8_takeOthers 0 = .ok (.aload_n 0, 1) := dd_get dm_X8_takeOthers_0 0 rfl
theorem dX8_takeOthers_1 : decode cX8_takeOthers 1 = .ok (.getfield 36, 3) := dd_get dm_X8_takeOthers_0 1 rfl
theorem dX8_takeOthers_4 : decode cX8_takeOthers 4 = .ok (.invokevirtual 105, 3) := dd_get dm_X8_takeOthers_0 2 rfl
theorem dX8_takeOthers_7 : decode cX8_takeOthers 7 = .ok (.iconst 2, 1) := dd_get dm_X8_takeOthers_0 3 rfl
theorem dX8_takeOthers_8 : decode cX8_takeOthers 8 = .ok (.isub, 1) := dd_get dm_X8_takeOthers_0 4 rfl
theorem dX8_takeOthers_9 : decode cX8_takeOthers 9 = .ok (.istore_n 3, 1) := dd_get dm_X8_takeOthers_0 5 rfl
theorem dX8_takeOthers_10 : decode cX8_takeOthers 10 = .ok (.iconst 0, 1) := dd_get dm_X8_takeOthers_0 6 rfl
theorem dX8_takeOthers_11 : decode cX8_takeOthers 11 = .ok (.istore 4, 2) := dd_get dm_X8_takeOthers_0 7 rfl
theorem dX8_takeOthers_13 : decode cX8_takeOthers 13 = .ok (.iload 4, 2) := dd_get dm_X8_takeOthers_0 8 rfl
theorem dX8_takeOthers_15 : decode cX8_takeOthers 15 = .ok (.aload_n 0, 1) := dd_get dm_X8_takeOthers_0 9 rfl
theorem dX8_takeOthers_16 : decode cX8_takeOthers 16 = .ok (.getfield 22, 3) := dd_get dm_X8_takeOthers_0 10 rfl
theorem dX8_takeOthers_19 : decode cX8_takeOthers 19 = .ok (.if_icmp .ge 76, 3) := dd_get dm_X8_takeOthers_0 11 rfl
theorem dX8_takeOthers_22 : decode cX8_takeOthers 22 = .ok (.aload_n 0, 1) := dd_get dm_X8_takeOthers_0 12 rfl
theorem dX8_takeOthers_23 : decode cX8_takeOthers 23 = .ok (.getfield 26, 3) := dd_get dm_X8_takeOthers_0 13 rfl
theorem dX8_takeOthers_26 : decode cX8_takeOthers 26 = .ok (.iload_n 3, 1) := dd_get dm_X8_takeOthers_0 14 rfl
theorem dX8_takeOthers_27 : decode cX8_takeOthers 27 = .ok (.if_icmp .ge 68, 3) := dd_get dm_X8_takeOthers_0 15 rfl
theorem dX8_takeOthers_30 : decode cX8_takeOthers 30 = .ok (.aload_n 0, 1) := dd_get dm_X8_takeOthers_0 16 rfl
theorem dX8_takeOthers_31 : decode cX8_takeOthers 31 = .ok (.iload 4, 2) := dd_get dm_X8_takeOthers_0 17 rfl
theorem dX8_takeOthers_33 : decode cX8_takeOthers 33 = .ok (.invokevirtual 60, 3) := dd_get dm_X8_takeOthers_0 18 rfl
theorem dX8_takeOthers_36 : decode cX8_takeOthers 36 = .ok (.invokestatic 64, 3) := dd_get dm_X8_takeOthers_0 19 rfl
theorem dX8_takeOthers_39 : decode cX8_takeOthers 39 = .ok (.istore 5, 2) := dd_get dm_X8_takeOthers_0 20 rfl
theorem dX8_takeOthers_41 : decode cX8_takeOthers 41 = .ok (.aload_n 0, 1) := dd_get dm_X8_takeOthers_0 21 rfl
theorem dX8_takeOthers_42 : decode cX8_takeOthers 42 = .ok (.iload 4, 2) := dd_get dm_X8_takeOthers_0 22 rfl
theorem dX8_takeOthers_44 : decode cX8_takeOthers 44 = .ok (.invokevirtual 60, 3) := dd_get dm_X8_takeOthers_0 23 rfl
theorem dX8_takeOthers_47 : decode cX8_takeOthers 47 = .ok (.invokestatic 67, 3) := dd_get dm_X8_takeOthers_0 24 rfl
theorem dX8_takeOthers_50 : decode cX8_takeOthers 50 = .ok (.istore 6, 2) := dd_get dm_X8_takeOthers_0 25 rfl
theorem dX8_takeOthers_52 : decode cX8_takeOthers 52 = .ok (.iload 5, 2) := dd_get dm_X8_takeOthers_0 26 rfl
theorem dX8_takeOthers_54 : decode cX8_takeOthers 54 = .ok (.iload_n 1, 1) := dd_get dm_X8_takeOthers_0 27 rfl
theorem dX8_takeOthers_55 : decode cX8_takeOthers 55 = .ok (.if_icmp .eq 34, 3) := dd_get dm_X8_takeOthers_0 28 rfl
theorem dX8_takeOthers_58 : decode cX8_takeOthers 58 = .ok (.aload_n 0, 1) := dd_get dm_X8_takeOthers_0 29 rfl
theorem dX8_takeOthers_59 : decode cX8_takeOthers 59 = .ok (.getfield 19, 3) := dd_get dm_X8_takeOthers_0 30 rfl
theorem dX8_takeOthers_62 : decode cX8_takeOthers 62 = .ok (.iload 5, 2) := dd_get dm_X8_takeOthers_0 31 rfl
theorem dX8_takeOthers_64 : decode cX8_takeOthers 64 = .ok (.iaload, 1) := dd_get dm_X8_takeOthers_0 32 rfl
theorem dX8_takeOthers_65 : decode cX8_takeOthers 65 = .ok (.iload 6, 2) := dd_get dm_X8_takeOthers_0 33 rfl
theorem dX8_takeOthers_67 : decode cX8_takeOthers 67 = .ok (.invokestatic 108, 3) := dd_get dm_X8_takeOthers_0 34 rfl
theorem dX8_takeOthers_70 : decode cX8_takeOthers 70 = .ok (.ifCond .ne 19, 3) := dd_get dm_X8_takeOthers_0 35 rfl
theorem dX8_takeOthers_73 : decode cX8_takeOthers 73 = .ok (.aload_n 0, 1) := dd_get dm_X8_takeOthers_0 36 rfl
theorem dX8_takeOthers_74 : decode cX8_takeOthers 74 = .ok (.iload 4, 2) := dd_get dm_X8_takeOthers_0 37 rfl
theorem dX8_takeOthers_76 : decode cX8_takeOthers 76 = .ok (.iload_n 2, 1) := dd_get dm_X8_takeOthers_0 38 rfl
theorem dX8_takeOthers_77 : decode cX8_takeOthers 77 = .ok (.invokevirtual 111, 3) := dd_get dm_X8_takeOthers_0 39 rfl
theorem dX8_takeOthers_80 : decode cX8_takeOthers 80 = .ok (.ifCond .eq 9, 3) := dd_get dm_X8_takeOthers_0 40 rfl
theorem dX8_takeOthers_83 : decode cX8_takeOthers 83 = .ok (.aload_n 0, 1) := dd_get dm_X8_takeOthers_0 41 rfl
theorem dX8_takeOthers_84 : decode cX8_takeOthers 84 = .ok (.iload 4, 2) := dd_get dm_X8_takeOthers_0 42 rfl
theorem dX8_takeOthers_86 : decode cX8_takeOthers 86 = .ok (.invokevirtual 115, 3) := dd_get dm_X8_takeOthers_0 43 rfl
theorem dX8_takeOthers_89 : decode cX8_takeOthers 89 = .ok (.iinc 4 1, 3) := dd_get dm_X8_takeOthers_0 44 rfl
theorem dX8_takeOthers_92 : decode cX8_takeOthers 92 = .ok (.goto (-79), 3) := dd_get dm_X8_takeOthers_0 45 rfl
theorem dX8_takeOthers_95 : decode cX8_takeOthers 95 = .ok (.return_, 1) := dd_get dm_X8_takeOthers_0 46 rfl
theorem dm_X8_takeOfFirst_0 : (([(0, .iconst 0, 1), (1, .istore_n 3, 1), (2, .iload_n 3, 1), (3, .aload_n 0, 1), (4, .getfield 22, 3), (7, .if_icmp .ge 53, 3), (10, .aload_n 0, 1), (11, .getfield 29, 3), (14, .iconst 2, 1), (15, .if_icmp .ge 45, 3), (18, .aload_n 0, 1), (19, .iload_n 3, 1), (20, .invokevirtual 60, 3), (23, .invokestatic 64, 3), (26, .iload_n 1, 1), (27, .if_icmp .ne 27, 3), (30, .aload_n 0, 1), (31, .iload_n 3, 1), (32, .iload_n 2, 1), (33, .invokevirtual 111, 3), (36, .ifCond .eq 18, 3), (39, .aload_n 0, 1), (40, .iload_n 3, 1), (41, .invokevirtual 115, 3), (44, .aload_n 0, 1), (45, .dup, 1), (46, .getfield 29, 3), (49, .iconst 1, 1), (50, .iadd, 1), (51, .putfield 29, 3), (54, .iinc 3 1, 3), (57, .goto (-55), 3), (60, .return_, 1)] : List (Nat × Instr × Nat)).all fun q => decide (decode cX8_takeOfFirst q.1 = .ok (q.2.1, q.2.2))) = true := by decide +kernel
theorem dX8_takeOfFirst_0 : decode cX8_takeOfFirst 0 = .ok (.iconst 0, 1) := dd_get dm_X8_takeOfFirst_0 0 rfl
theorem dX8_takeOfFirst_1 : decode cX8_takeOfFirst 1 = .ok (.istore_n 3, 1) := dd_get dm_X8_takeOfFirst_0 1 rfl
theorem dX8_takeOfFirst_2 : decode cX8_takeOfFirst 2 = .ok (.iload_n 3, 1) := dd_get dm_X8_takeOfFirst_0 2 rfl
theorem dX8_takeOfFirst_3 : decode cX8_takeOfFirst 3 = .ok (.aload_n 0, 1) := dd_get dm_X8_takeOfFirst_0 3 rfl
theorem dX8_takeOfFirst_4 : decode cX8_takeOfFirst 4 = .ok (.getfield 22, 3) := dd_get dm_X8_takeOfFirst_0 4 rfl
theorem dX8_takeOfFirst_7 : decode cX8_takeOfFirst 7 = .ok (.if_icmp .ge 53, 3) := dd_get dm_X8_takeOfFirst_0 5 rfl
theorem dX8_takeOfFirst_10 : decode cX8_takeOfFirst 10 = .ok (.aload_n 0, 1) := dd_get dm_X8_takeOfFirst_0 6 rfl
theorem dX8_takeOfFirst_11 : decode cX8_takeOfFirst 11 = .ok (.getfield 29, 3) := dd_get dm_X8_takeOfFirst_0 7 rfl
theorem dX8_takeOfFirst_14 : decode cX8_takeOfFirst 14 = .ok (.iconst 2, 1) := dd_get dm_X8_takeOfFirst_0 8 rfl
theorem dX8_takeOfFirst_15 : decode cX8_takeOfFirst 15 = .ok (.if_icmp .ge 45, 3) := dd_get dm_X8_takeOfFirst_0 9 rfl
theorem dX8_takeOfFirst_18 : decode cX8_takeOfFirst 18 = .ok (.aload_n 0, 1) := dd_get dm_X8_takeOfFirst_0 10 rfl
theorem dX8_takeOfFirst_19 : decode cX8_takeOfFirst 19 = .ok (.iload_n 3, 1) := dd_get dm_X8_takeOfFirst_0 11 rfl
theorem dX8_takeOfFirst_20 : decode cX8_takeOfFirst 20 = .ok (.invokevirtual 60, 3) := dd_get dm_X8_takeOfFirst_0 12 rfl
theorem dX8_takeOfFirst_23 : decode cX8_takeOfFirst 23 = .ok (.invokestatic 64, 3) := dd_get dm_X8_takeOfFirst_0 13 rfl
theorem dX8_takeOfFirst_26 : decode cX8_takeOfFirst 26 = .ok (.iload_n 1, 1) := dd_get dm_X8_takeOfFirst_0 14 rfl
theorem dX8_takeOfFirst_27 : decode cX8_takeOfFirst 27 = .ok (.if_icmp .ne 27, 3) := dd_get dm_X8_takeOfFirst_0 15 rfl
theorem dX8_takeOfFirst_30 : decode cX8_takeOfFirst 30 = .ok (.aload_n 0, 1) := dd_get dm_X8_takeOfFirst_0 16 rfl
theorem dX8_takeOfFirst_31 : decode cX8_takeOfFirst 31 = .ok (.iload_n 3, 1) := dd_get dm_X8_takeOfFirst_0 17 rfl
theorem dX8_takeOfFirst_32 : decode cX8_takeOfFirst 32 = .ok (.iload_n 2, 1) := dd_get dm_X8_takeOfFirst_0 18 rfl
theorem dX8_takeOfFirst_33 : decode cX8_takeOfFirst 33 = .ok (.invokevirtual 111, 3) := dd_get dm_X8_takeOfFirst_0 19 rfl
theorem dX8_takeOfFirst_36 : decode cX8_takeOfFirst 36 = .ok (.ifCond .eq 18, 3) := dd_get dm_X8_takeOfFirst_0 20 rfl
theorem dX8_takeOfFirst_39 : decode cX8_takeOfFirst 39 = .ok (.aload_n 0, 1) := dd_get dm_X8_takeOfFirst_0 21 rfl
theorem dX8_takeOfFirst_40 : decode cX8_takeOfFirst 40 = .ok (.iload_n 3, 1) := dd_get dm_X8_takeOfFirst_0 22 rfl
theorem dX8_takeOfFirst_41 : decode cX8_takeOfFirst 41 = .ok (.invokevirtual 115, 3) := dd_get dm_X8_takeOfFirst_0 23 rfl
theorem dX8_takeOfFirst_44 : decode cX8_takeOfFirst 44 = .ok (.aload_n 0, 1) := dd_get dm_X8_takeOfFirst_0 24 rfl
theorem dX8_takeOfFirst_45 : decode cX8_takeOfFirst 45 = .ok (.dup, 1) := dd_get dm_X8_takeOfFirst_0 25 rfl
theorem dX8_takeOfFirst_46 : decode cX8_takeOfFirst 46 = .ok (.getfield 29, 3) := dd_get dm_X8_takeOfFirst_0 26 rfl
theorem dX8_takeOfFirst_49 : decode cX8_takeOfFirst 49 = .ok (.iconst 1, 1) := dd_get dm_X8_takeOfFirst_0 27 rfl
theorem dX8_takeOfFirst_50 : decode cX8_takeOfFirst 50 = .ok (.iadd, 1) := dd_get dm_X8_takeOfFirst_0 28 rfl
theorem dX8_takeOfFirst_51 : decode cX8_takeOfFirst 51 = .ok (.putfield 29, 3) := dd_get dm_X8_takeOfFirst_0 29 rfl
theorem dX8_takeOfFirst_54 : decode cX8_takeOfFirst 54 = .ok (.iinc 3 1, 3) := dd_get dm_X8_takeOfFirst_0 30 rfl
theorem dX8_takeOfFirst_57 : decode cX8_takeOfFirst 57 = .ok (.goto (-55), 3) := dd_get dm_X8_takeOfFirst_0 31 rfl
theorem dX8_takeOfFirst_60 : decode cX8_takeOfFirst 60 = .ok (.return_, 1) := dd_get dm_X8_takeOfFirst_0 32 rfl
theorem dm_X8_mayTake_0 : (([(0, .aload_n 0, 1), (1, .iload_n 1, 1), (2, .invokevirtual 60, 3), (5, .invokestatic 64, 3), (8, .istore_n 3, 1), (9, .aload_n 0, 1), (10, .iload_n 1, 1), (11, .invokevirtual 60, 3), (14, .invokestatic 67, 3), (17, .istore 4, 2), (19, .aload_n 0, 1), (20, .getfield 40, 3), (23, .getfield 119, 3), (26, .iload_n 3, 1), (27, .iaload, 1), (28, .iload 4, 2), (30, .invokestatic 108, 3), (33, .iload_n 2, 1), (34, .if_icmp .ne 36, 3), (37, .aload_n 0, 1), (38, .getfield 40, 3), (41, .getfield 122, 3), (44, .iload_n 3, 1), (45, .iaload, 1), (46, .iload 4, 2), (48, .invokestatic 108, 3), (51, .ifCond .ne 19, 3), (54, .aload_n 0, 1), (55, .iload_n 1, 1), (56, .invokevirtual 125, 3), (59, .ldc2_w 70, 3), (62, .lcmp, 1), (63, .ifCond .eq 7, 3), (66, .iconst 1, 1), (67, .goto 4, 3), (70, .iconst 0, 1), (71, .ireturn, 1)] : List (Nat × Instr × Nat)).all fun q => decide (decode cX8_mayTake q.1 = .ok (q.2.1, q.2.2))) = true := by decide +kernel
theorem dX8_mayTake_0 : decode cX8_mayTake 0 = .ok (.aload_n 0, 1) := dd_get dm_X8_mayTake_0 0 rfl
theorem dX8_mayTake_1 : decode cX8_mayTake 1 = .ok (.iload_n 1, 1) := dd_get dm_X8_mayTake_0 1 rfl
theorem dX8_mayTake_2 : decode cX8_mayTake 2 = .ok (.invokevirtual 60, 3) := dd_get dm_X8_mayTake_0 2 rfl
theorem dX8_mayTake_5 : decode cX8_mayTake 5 = .ok (.invokestatic 64, 3) := dd_get dm_X8_mayTake_0 3 rfl
theorem dX8_mayTake_8 : decode cX8_mayTake 8 = .ok (.istore_n 3, 1) := dd_get dm_X8_mayTake_0 4 rfl
theorem dX8_mayTake_9 : decode cX8_mayTake 9 = .ok (.aload_n 0, 1) := dd_get dm_X8_mayTake_0 5 rfl
theorem dX8_mayTake_10 : decode cX8_mayTake 10 = .ok (.iload_n 1, 1) := dd_get dm_X8_mayTake_0 6 rfl
theorem dX8_mayTake_11 : decode cX8_mayTake 11 = .ok (.invokevirtual 60, 3) := dd_get dm_X8_mayTake_0 7 rfl
theorem dX8_mayTake_14 : decode cX8_mayTake 14 = .ok (.invokestatic 67, 3) := dd_get dm_X8_mayTake_0 8 rfl
theorem dX8_mayTake_17 : decode cX8_mayTake 17 = .ok (.istore 4, 2) := dd_get dm_X8_mayTake_0 9 rfl
theorem dX8_mayTake_19 : decode cX8_mayTake 19 = .ok (.aload_n 0, 1) := dd_get dm_X8_mayTake_0 10 rfl
theorem dX8_mayTake_20 : decode cX8_mayTake 20 = .ok (.getfield 40, 3) := dd_get dm_X8_mayTake_0 11 rfl
theorem dX8_mayTake_23 : decode cX8_mayTake 23 = .ok (.getfield 119, 3) := dd_get dm_X8_mayTake_0 12 rfl
theorem dX8_mayTake_26 : decode cX8_mayTake 26 = .ok (.iload_n 3, 1) := dd_get dm_X8_mayTake_0 13 rfl
theorem dX8_mayTake_27 : decode cX8_mayTake 27 = .ok (.iaload, 1) := dd_get dm_X8_mayTake_0 14 rfl
theorem dX8_mayTake_28 : decode cX8_mayTake 28 = .ok (.iload 4, 2) := dd_get dm_X8_mayTake_0 15 rfl
theorem dX8_mayTake_30 : decode cX8_mayTake 30 = .ok (.invokestatic 108, 3) := dd_get dm_X8_mayTake_0 16 rfl
theorem dX8_mayTake_33 : decode cX8_mayTake 33 = .ok (.iload_n 2, 1) := dd_get dm_X8_mayTake_0 17 rfl
theorem dX8_mayTake_34 : decode cX8_mayTake 34 = .ok (.if_icmp .ne 36, 3) := dd_get dm_X8_mayTake_0 18 rfl
theorem dX8_mayTake_37 : decode cX8_mayTake 37 = .ok (.aload_n 0, 1) := dd_get dm_X8_mayTake_0 19 rfl
theorem dX8_mayTake_38 : decode cX8_mayTake 38 = .ok (.getfield 40, 3) := dd_get dm_X8_mayTake_0 20 rfl
theorem dX8_mayTake_41 : decode cX8_mayTake 41 = .ok (.getfield 122, 3) := dd_get dm_X8_mayTake_0 21 rfl
theorem dX8_mayTake_44 : decode cX8_mayTake 44 = .ok (.iload_n 3, 1) := dd_get dm_X8_mayTake_0 22 rfl
theorem dX8_mayTake_45 : decode cX8_mayTake 45 = .ok (.iaload, 1) := dd_get dm_X8_mayTake_0 23 rfl
theorem dX8_mayTake_46 : decode cX8_mayTake 46 = .ok (.iload 4, 2) := dd_get dm_X8_mayTake_0 24 rfl
theorem dX8_mayTake_48 : decode cX8_mayTake 48 = .ok (.invokestatic 108, 3) := dd_get dm_X8_mayTake_0 25 rfl
theorem dX8_mayTake_51 : decode cX8_mayTake 51 = .ok (.ifCond .ne 19, 3) := dd_get dm_X8_mayTake_0 26 rfl
theorem dX8_mayTake_54 : decode cX8_mayTake 54 = .ok (.aload_n 0, 1) := dd_get dm_X8_mayTake_0 27 rfl
theorem dX8_mayTake_55 : decode cX8_mayTake 55 = .ok (.iload_n 1, 1) := dd_get dm_X8_mayTake_0 28 rfl
theorem dX8_mayTake_56 : decode cX8_mayTake 56 = .ok (.invokevirtual 125, 3) := dd_get dm_X8_mayTake_0 29 rfl
theorem dX8_mayTake_59 : decode cX8_mayTake 59 = .ok (.ldc2_w 70, 3) := dd_get dm_X8_mayTake_0 30 rfl
theorem dX8_mayTake_62 : decode cX8_mayTake 62 = .ok (.lcmp, 1) := dd_get dm_X8_mayTake_0 31 rfl
theorem dX8_mayTake_63 : decode cX8_mayTake 63 = .ok (.ifCond .eq 7, 3) := dd_get dm_X8_mayTake_0 32 rfl
theorem dX8_mayTake_66 : decode cX8_mayTake 66 = .ok (.iconst 1, 1) := dd_get dm_X8_mayTake_0 33 rfl
theorem dX8_mayTake_67 : decode cX8_mayTake 67 = .ok (.goto 4, 3) := dd_get dm_X8_mayTake_0 34 rfl
theorem dX8_mayTake_70 : decode cX8_mayTake 70 = .ok (.iconst 0, 1) := dd_get dm_X8_mayTake_0 35 rfl
theorem dX8_mayTake_71 : decode cX8_mayTake 71 = .ok (.ireturn, 1) := dd_get dm_X8_mayTake_0 36 rfl
theorem dm_X8_take_0 : (([(0, .aload_n 0, 1), (1, .iload_n 1, 1), (2, .invokevirtual 60, 3), (5, .istore_n 2, 1), (6, .aload_n 0, 1), (7, .getfield 26, 3), (10, .bipush 12, 2), (12, .if_icmp .ge 23, 3), (15, .aload_n 0, 1), (16, .getfield 15, 3), (19, .aload_n 0, 1), (20, .getfield 26, 3), (23, .iload_n 2, 1), (24, .iastore, 1), (25, .aload_n 0, 1), (26, .dup, 1), (27, .getfield 26, 3), (30, .iconst 1, 1), (31, .iadd, 1), (32, .putfield 26, 3), (35, .aload_n 0, 1), (36, .dup, 1), (37, .getfield 32, 3), (40, .aload_n 0, 1), (41, .iload_n 1, 1), (42, .invokevirtual 125, 3), (45, .ladd, 1), (46, .putfield 32, 3), (49, .aload_n 0, 1), (50, .getfield 19, 3), (53, .iload_n 2, 1), (54, .invokestatic 64, 3), (57, .iaload, 1), (58, .aload_n 0, 1), (59, .getfield 19, 3), (62, .iload_n 2, 1), (63, .invokestatic 67, 3), (66, .iaload, 1), (67, .ior, 1), (68, .istore_n 3, 1), (69, .iconst 0, 1), (70, .istore 4, 2), (72, .iload 4, 2), (74, .bipush 12, 2), (76, .if_icmp .ge 26, 3), (79, .iload_n 3, 1), (80, .iload 4, 2), (82, .invokestatic 108, 3), (85, .ifCond .eq 11, 3), (88, .aload_n 0, 1), (89, .getfield 19, 3), (92, .iload 4, 2), (94, .iload_n 3, 1), (95, .iastore, 1), (96, .iinc 4 1, 3), (99, .goto (-27), 3), (102, .return_, 1)] : List (Nat × Instr × Nat)).all fun q => decide (decode cX8_take q.1 = .ok (q.2.1, q.2.2))) = true := by decide +kernel
theorem dX8_take_0 : decode cX8_take 0 = .ok (.aload_n 0, 1) := dd_get dm_X8_take_0 0 rfl
theorem dX8_take_1 : decode cX8_take 1 = .ok (.iload_n 1, 1) := dd_get dm_X8_take_0 1 rfl
theorem dX8_take_2 : decode cX8_take 2 = .ok (.invokevirtual 60, 3) := dd_get dm_X8_take_0 2 rfl
theorem dX8_take_5 : decode cX8_take 5 = .ok (.istore_n 2, 1) := dd_get dm_X8_take_0 3 rfl
theorem dX8_take_6 : decode cX8_take 6 = .ok (.aload_n 0, 1) := dd_get dm_X8_take_0 4 rfl
theorem dX8_take_7 : decode cX8_take 7 = .ok (.getfield 26, 3) := dd_get dm_X8_take_0 5 rfl
theorem dX8_take_10 : decode cX8_take 10 = .ok (.bipush 12, 2) := dd_get dm_X8_take_0 6 rfl
theorem dX8_take_12 : decode cX8_take 12 = .ok (.if_icmp .ge 23, 3) := dd_get dm_X8_take_0 7 rfl
theorem dX8_take_15 : decode cX8_take 15 = .ok (.aload_n 0, 1) := dd_get dm_X8_take_0 8 rfl
theorem dX8_take_16 : decode cX8_take 16 = .ok (.getfield 15, 3) := dd_get dm_X8_take_0 9 rfl
theorem dX8_take_19 : decode cX8_take 19 = .ok (.aload_n 0, 1) := dd_get dm_X8_take_0 10 rfl
theorem dX8_take_20 : decode cX8_take 20 = .ok (.getfield 26, 3) := dd_get dm_X8_take_0 11 rfl
theorem dX8_take_23 : decode cX8_take 23 = .ok (.iload_n 2, 1) := dd_get dm_X8_take_0 12 rfl
theorem dX8_take_24 : decode cX8_take 24 = .ok (.iastore, 1) := dd_get dm_X8_take_0 13 rfl
theorem dX8_take_25 : decode cX8_take 25 = .ok (.aload_n 0, 1) := dd_get dm_X8_take_0 14 rfl
theorem dX8_take_26 : decode cX8_take 26 = .ok (.dup, 1) := dd_get dm_X8_take_0 15 rfl
theorem dX8_take_27 : decode cX8_take 27 = .ok (.getfield 26, 3) := dd_get dm_X8_take_0 16 rfl
theorem dX8_take_30 : decode cX8_take 30 = .ok (.iconst 1, 1) := dd_get dm_X8_take_0 17 rfl
theorem dX8_take_31 : decode cX8_take 31 = .ok (.iadd, 1) := dd_get dm_X8_take_0 18 rfl
theorem dX8_take_32 : decode cX8_take 32 = .ok (.putfield 26, 3) := dd_get dm_X8_take_0 19 rfl
theorem dX8_take_35 : decode cX8_take 35 = .ok (.aload_n 0, 1) := dd_get dm_X8_take_0 20 rfl
theorem dX8_take_36 : decode cX8_take 36 = .ok (.dup, 1) := dd_get dm_X8_take_0 21 rfl
theorem dX8_take_37 : decode cX8_take 37 = .ok (.getfield 32, 3) := dd_get dm_X8_take_0 22 rfl
theorem dX8_take_40 : decode cX8_take 40 = .ok (.aload_n 0, 1) := dd_get dm_X8_take_0 23 rfl
theorem dX8_take_41 : decode cX8_take 41 = .ok (.iload_n 1, 1) := dd_get dm_X8_take_0 24 rfl
theorem dX8_take_42 : decode cX8_take 42 = .ok (.invokevirtual 125, 3) := dd_get dm_X8_take_0 25 rfl
theorem dX8_take_45 : decode cX8_take 45 = .ok (.ladd, 1) := dd_get dm_X8_take_0 26 rfl
theorem dX8_take_46 : decode cX8_take 46 = .ok (.putfield 32, 3) := dd_get dm_X8_take_0 27 rfl
theorem dX8_take_49 : decode cX8_take 49 = .ok (.aload_n 0, 1) := dd_get dm_X8_take_0 28 rfl
theorem dX8_take_50 : decode cX8_take 50 = .ok (.getfield 19, 3) := dd_get dm_X8_take_0 29 rfl
theorem dX8_take_53 : decode cX8_take 53 = .ok (.iload_n 2, 1) := dd_get dm_X8_take_0 30 rfl
theorem dX8_take_54 : decode cX8_take 54 = .ok (.invokestatic 64, 3) := dd_get dm_X8_take_0 31 rfl
theorem dX8_take_57 : decode cX8_take 57 = .ok (.iaload, 1) := dd_get dm_X8_take_0 32 rfl
theorem dX8_take_58 : decode cX8_take 58 = .ok (.aload_n 0, 1) := dd_get dm_X8_take_0 33 rfl
theorem dX8_take_59 : decode cX8_take 59 = .ok (.getfield 19, 3) := dd_get dm_X8_take_0 34 rfl
theorem dX8_take_62 : decode cX8_take 62 = .ok (.iload_n 2, 1) := dd_get dm_X8_take_0 35 rfl
theorem dX8_take_63 : decode cX8_take 63 = .ok (.invokestatic 67, 3) := dd_get dm_X8_take_0 36 rfl
theorem dX8_take_66 : decode cX8_take 66 = .ok (.iaload, 1) := dd_get dm_X8_take_0 37 rfl
theorem dX8_take_67 : decode cX8_take 67 = .ok (.ior, 1) := dd_get dm_X8_take_0 38 rfl
theorem dX8_take_68 : decode cX8_take 68 = .ok (.istore_n 3, 1) := dd_get dm_X8_take_0 39 rfl
theorem dX8_take_69 : decode cX8_take 69 = .ok (.iconst 0, 1) := dd_get dm_X8_take_0 40 rfl
theorem dX8_take_70 : decode cX8_take 70 = .ok (.istore 4, 2) := dd_get dm_X8_take_0 41 rfl
theorem dX8_take_72 : decode cX8_take 72 = .ok (.iload 4, 2) := dd_get dm_X8_take_0 42 rfl
theorem dX8_take_74 : decode cX8_take 74 = .ok (.bipush 12, 2) := dd_get dm_X8_take_0 43 rfl
theorem dX8_take_76 : decode cX8_take 76 = .ok (.if_icmp .ge 26, 3) := dd_get dm_X8_take_0 44 rfl
theorem dX8_take_79 : decode cX8_take 79 = .ok (.iload_n 3, 1) := dd_get dm_X8_take_0 45 rfl
theorem dX8_take_80 : decode cX8_take 80 = .ok (.iload 4, 2) := dd_get dm_X8_take_0 46 rfl
theorem dX8_take_82 : decode cX8_take 82 = .ok (.invokestatic 108, 3) := dd_get dm_X8_take_0 47 rfl
theorem dX8_take_85 : decode cX8_take 85 = .ok (.ifCond .eq 11, 3) := dd_get dm_X8_take_0 48 rfl
theorem dX8_take_88 : decode cX8_take 88 = .ok (.aload_n 0, 1) := dd_get dm_X8_take_0 49 rfl
theorem dX8_take_89 : decode cX8_take 89 = .ok (.getfield 19, 3) := dd_get dm_X8_take_0 50 rfl
theorem dX8_take_92 : decode cX8_take 92 = .ok (.iload 4, 2) := dd_get dm_X8_take_0 51 rfl
theorem dX8_take_94 : decode cX8_take 94 = .ok (.iload_n 3, 1) := dd_get dm_X8_take_0 52 rfl
theorem dX8_take_95 : decode cX8_take 95 = .ok (.iastore, 1) := dd_get dm_X8_take_0 53 rfl
theorem dX8_take_96 : decode cX8_take 96 = .ok (.iinc 4 1, 3) := dd_get dm_X8_take_0 54 rfl
theorem dX8_take_99 : decode cX8_take 99 = .ok (.goto (-27), 3) := dd_get dm_X8_take_0 55 rfl
theorem dX8_take_102 : decode cX8_take 102 = .ok (.return_, 1) := dd_get dm_X8_take_0 56 rfl
theorem dm_X8_sumOfCase_0 : (([(0, .aload_n 0, 1), (1, .getfield 36, 3), (4, .invokevirtual 94, 3), (7, .istore_n 1, 1), (8, .iload_n 1, 1), (9, .iconst (-1), 1), (10, .if_icmp .eq 27, 3), (13, .aload_n 0, 1), (14, .getfield 29, 3), (17, .iconst 2, 1), (18, .if_icmp .lt 19, 3), (21, .aload_n 0, 1), (22, .getfield 19, 3), (25, .iload_n 1, 1), (26, .iaload, 1), (27, .aload_n 0, 1), (28, .getfield 36, 3), (31, .getfield 129, 3), (34, .if_icmp .eq 7, 3), (37, .ldc2_w 132, 3), (40, .lreturn, 1), (41, .aload_n 0, 1), (42, .getfield 32, 3), (45, .lstore_n 2, 1), (46, .iconst 0, 1), (47, .istore 4, 2), (49, .iload 4, 2), (51, .aload_n 0, 1), (52, .getfield 36, 3), (55, .getfield 44, 3), (58, .if_icmp .ge 39, 3), (61, .aload_n 0, 1), (62, .getfield 36, 3), (65, .iload 4, 2), (67, .invokevirtual 49, 3), (70, .ifCond .eq 21, 3), (73, .lload_n 2, 1), (74, .ldc2_w 134, 3), (77, .aload_n 0, 1), (78, .getfield 36, 3), (81, .getfield 77, 3), (84, .iload 4, 2), (86, .iaload, 1), (87, .i2l, 1), (88, .lmul, 1), (89, .lsub, 1), (90, .lstore_n 2, 1), (91, .iinc 4 1, 3), (94, .goto (-45), 3), (97, .lload_n 2, 1), (98, .lreturn, 1)] : List (Nat × Instr × Nat)).all fun q => decide (decode cX8_sumOfCase q.1 = .ok (q.2.1, q.2.2))) = true := by decide +kernel
theorem dX8_sumOfCase_0 : decode cX8_sumOfCase 0 = .ok (.aload_n 0, 1) := dd_get dm_X8_sumOfCase_0 0 rfl
theorem dX8_sumOfCase_1 : decode cX8_sumOfCase 1 = .ok (.getfield 36, 3) := dd_get dm_X8_sumOfCase_0 1 rfl
theorem dX8_sumOfCase_4 : decode cX8_sumOfCase 4 = .ok (.invokevirtual 94, 3) := dd_get dm_X8_sumOfCase_0 2 rfl
theorem dX8_sumOfCase_7 : decode cX8_sumOfCase 7 = .ok (.istore_n 1, 1) := dd_get dm_X8_sumOfCase_0 3 rfl
theorem dX8_sumOfCase_8 : decode cX8_sumOfCase 8 = .ok (.iload_n 1, 1) := dd_get dm_X8_sumOfCase_0 4 rfl
theorem dX8_sumOfCase_9 : decode cX8_sumOfCase 9 = .ok (.iconst (-1), 1) := dd_get dm_X8_sumOfCase_0 5 rfl
theorem dX8_sumOfCase_10 : decode cX8_sumOfCase 10 = .ok (.if_icmp .eq 27, 3) := dd_get dm_X8_sumOfCase_0 6 rfl
theorem dX8_sumOfCase_13 : decode cX8_sumOfCase 13 = .ok (.aload_n 0, 1) := dd_get dm_X8_sumOfCase_0 7 rfl
theorem dX8_sumOfCase_14 : decode cX8_sumOfCase 14 = .ok (.getfield 29, 3) := dd_get dm_X8_sumOfCase_0 8 rfl
theorem dX8_sumOfCase_17 : decode cX8_sumOfCase 17 = .ok (.iconst 2, 1) := dd_get dm_X8_sumOfCase_0 9 rfl
theorem dX8_sumOfCase_18 : decode cX8_sumOfCase 18 = .ok (.if_icmp .lt 19, 3) := dd_get dm_X8_sumOfCase_0 10 rfl
theorem dX8_sumOfCase_21 : decode cX8_sumOfCase 21 = .ok (.aload_n 0, 1) := dd_get dm_X8_sumOfCase_0 11 rfl
theorem dX8_sumOfCase_22 : decode cX8_sumOfCase 22 = .ok (.getfield 19, 3) := dd_get dm_X8_sumOfCase_0 12 rfl
theorem dX8_sumOfCase_25 : decode cX8_sumOfCase 25 = .ok (.iload_n 1, 1) := dd_get dm_X8_sumOfCase_0 13 rfl
theorem dX8_sumOfCase_26 : decode cX8_sumOfCase 26 = .ok (.iaload, 1) := dd_get dm_X8_sumOfCase_0 14 rfl
theorem dX8_sumOfCase_27 : decode cX8_sumOfCase 27 = .ok (.aload_n 0, 1) := dd_get dm_X8_sumOfCase_0 15 rfl
theorem dX8_sumOfCase_28 : decode cX8_sumOfCase 28 = .ok (.getfield 36, 3) := dd_get dm_X8_sumOfCase_0 16 rfl
theorem dX8_sumOfCase_31 : decode cX8_sumOfCase 31 = .ok (.getfield 129, 3) := dd_get dm_X8_sumOfCase_0 17 rfl
theorem dX8_sumOfCase_34 : decode cX8_sumOfCase 34 = .ok (.if_icmp .eq 7, 3) := dd_get dm_X8_sumOfCase_0 18 rfl
theorem dX8_sumOfCase_37 : decode cX8_sumOfCase 37 = .ok (.ldc2_w 132, 3) := dd_get dm_X8_sumOfCase_0 19 rfl
theorem dX8_sumOfCase_40 : decode cX8_sumOfCase 40 = .ok (.lreturn, 1) := dd_get dm_X8_sumOfCase_0 20 rfl
theorem dX8_sumOfCase_41 : decode cX8_sumOfCase 41 = .ok (.aload_n 0, 1) := dd_get dm_X8_sumOfCase_0 21 rfl
theorem dX8_sumOfCase_42 : decode cX8_sumOfCase 42 = .ok (.getfield 32, 3) := dd_get dm_X8_sumOfCase_0 22 rfl
theorem dX8_sumOfCase_45 : decode cX8_sumOfCase 45 = .ok (.lstore_n 2, 1) := dd_get dm_X8_sumOfCase_0 23 rfl
theorem dX8_sumOfCase_46 : decode cX8_sumOfCase 46 = .ok (.iconst 0, 1) := dd_get dm_X8_sumOfCase_0 24 rfl
theorem dX8_sumOfCase_47 : decode cX8_sumOfCase 47 = .ok (.istore 4, 2) := dd_get dm_X8_sumOfCase_0 25 rfl
theorem dX8_sumOfCase_49 : decode cX8_sumOfCase 49 = .ok (.iload 4, 2) := dd_get dm_X8_sumOfCase_0 26 rfl
theorem dX8_sumOfCase_51 : decode cX8_sumOfCase 51 = .ok (.aload_n 0, 1) := dd_get dm_X8_sumOfCase_0 27 rfl
theorem dX8_sumOfCase_52 : decode cX8_sumOfCase 52 = .ok (.getfield 36, 3) := dd_get dm_X8_sumOfCase_0 28 rfl
theorem dX8_sumOfCase_55 : decode cX8_sumOfCase 55 = .ok (.getfield 44, 3) := dd_get dm_X8_sumOfCase_0 29 rfl
theorem dX8_sumOfCase_58 : decode cX8_sumOfCase 58 = .ok (.if_icmp .ge 39, 3) := dd_get dm_X8_sumOfCase_0 30 rfl
theorem dX8_sumOfCase_61 : decode cX8_sumOfCase 61 = .ok (.aload_n 0, 1) := dd_get dm_X8_sumOfCase_0 31 rfl
theorem dX8_sumOfCase_62 : decode cX8_sumOfCase 62 = .ok (.getfield 36, 3) := dd_get dm_X8_sumOfCase_0 32 rfl
theorem dX8_sumOfCase_65 : decode cX8_sumOfCase 65 = .ok (.iload 4, 2) := dd_get dm_X8_sumOfCase_0 33 rfl
theorem dX8_sumOfCase_67 : decode cX8_sumOfCase 67 = .ok (.invokevirtual 49, 3) := dd_get dm_X8_sumOfCase_0 34 rfl
theorem dX8_sumOfCase_70 : decode cX8_sumOfCase 70 = .ok (.ifCond .eq 21, 3) := dd_get dm_X8_sumOfCase_0 35 rfl
theorem dX8_sumOfCase_73 : decode cX8_sumOfCase 73 = .ok (.lload_n 2, 1) := dd_get dm_X8_sumOfCase_0 36 rfl
theorem dX8_sumOfCase_74 : decode cX8_sumOfCase 74 = .ok (.ldc2_w 134, 3) := dd_get dm_X8_sumOfCase_0 37 rfl
theorem dX8_sumOfCase_77 : decode cX8_sumOfCase 77 = .ok (.aload_n 0, 1) := dd_get dm_X8_sumOfCase_0 38 rfl
theorem dX8_sumOfCase_78 : decode cX8_sumOfCase 78 = .ok (.getfield 36, 3) := dd_get dm_X8_sumOfCase_0 39 rfl
theorem dX8_sumOfCase_81 : decode cX8_sumOfCase 81 = .ok (.getfield 77, 3) := dd_get dm_X8_sumOfCase_0 40 rfl
theorem dX8_sumOfCase_84 : decode cX8_sumOfCase 84 = .ok (.iload 4, 2) := dd_get dm_X8_sumOfCase_0 41 rfl
theorem dX8_sumOfCase_86 : decode cX8_sumOfCase 86 = .ok (.iaload, 1) := dd_get dm_X8_sumOfCase_0 42 rfl
theorem dX8_sumOfCase_87 : decode cX8_sumOfCase 87 = .ok (.i2l, 1) := dd_get dm_X8_sumOfCase_0 43 rfl
theorem dX8_sumOfCase_88 : decode cX8_sumOfCase 88 = .ok (.lmul, 1) := dd_get dm_X8_sumOfCase_0 44 rfl
theorem dX8_sumOfCase_89 : decode cX8_sumOfCase 89 = .ok (.lsub, 1) := dd_get dm_X8_sumOfCase_0 45 rfl
theorem dX8_sumOfCase_90 : decode cX8_sumOfCase 90 = .ok (.lstore_n 2, 1) := dd_get dm_X8_sumOfCase_0 46 rfl
theorem dX8_sumOfCase_91 : decode cX8_sumOfCase 91 = .ok (.iinc 4 1, 3) := dd_get dm_X8_sumOfCase_0 47 rfl
theorem dX8_sumOfCase_94 : decode cX8_sumOfCase 94 = .ok (.goto (-45), 3) := dd_get dm_X8_sumOfCase_0 48 rfl
theorem dX8_sumOfCase_97 : decode cX8_sumOfCase 97 = .ok (.lload_n 2, 1) := dd_get dm_X8_sumOfCase_0 49 rfl
theorem dX8_sumOfCase_98 : decode cX8_sumOfCase 98 = .ok (.lreturn, 1) := dd_get dm_X8_sumOfCase_0 50 rfl
theorem dm_X8_raisePrices_0 : (([(0, .iconst 0, 1), (1, .istore_n 1, 1), (2, .iload_n 1, 1), (3, .aload_n 0, 1), (4, .getfield 36, 3), (7, .getfield 44, 3), (10, .if_icmp .ge 33, 3), (13, .aload_n 0, 1), (14, .getfield 36, 3), (17, .iload_n 1, 1), (18, .invokevirtual 49, 3), (21, .ifCond .eq 16, 3), (24, .aload_n 0, 1), (25, .getfield 36, 3), (28, .getfield 77, 3), (31, .iload_n 1, 1), (32, .dup2, 1), (33, .iaload, 1), (34, .iconst 2, 1), (35, .isub, 1), (36, .iastore, 1), (37, .iinc 1 1, 3), (40, .goto (-38), 3), (43, .iconst 0, 1), (44, .istore_n 1, 1), (45, .iload_n 1, 1), (46, .aload_n 0, 1), (47, .getfield 26, 3), (50, .if_icmp .ge 51, 3), (53, .aload_n 0, 1), (54, .getfield 36, 3), (57, .getfield 77, 3), (60, .aload_n 0, 1), (61, .getfield 15, 3), (64, .iload_n 1, 1), (65, .iaload, 1), (66, .invokestatic 64, 3), (69, .dup2, 1), (70, .iaload, 1), (71, .iconst 1, 1), (72, .iadd, 1), (73, .iastore, 1), (74, .aload_n 0, 1), (75, .getfield 36, 3), (78, .getfield 77, 3), (81, .aload_n 0, 1), (82, .getfield 15, 3), (85, .iload_n 1, 1), (86, .iaload, 1), (87, .invokestatic 67, 3), (90, .dup2, 1), (91, .iaload, 1), (92, .iconst 1, 1), (93, .iadd, 1), (94, .iastore, 1), (95, .iinc 1 1, 3), (98, .goto (-53), 3), (101, .return_, 1)] : List (Nat × Instr × Nat)).all fun q => decide (decode cX8_raisePrices q.1 = .ok (q.2.1, q.2.2))) = true := by decide +kernel
theorem dX8_raisePrices_0 : decode cX8_raisePrices 0 = .ok (.iconst 0, 1) := dd_get dm_X8_raisePrices_0 0 rfl
theorem dX8_raisePrices_1 : decode cX8_raisePrices 1 = .ok (.istore_n 1, 1) := dd_get dm_X8_raisePrices_0 1 rfl
theorem dX8_raisePrices_2 : decode cX8_raisePrices 2 = .ok (.iload_n 1, 1) := dd_get dm_X8_raisePrices_0 2 rfl
theorem dX8_raisePrices_3 : decode cX8_raisePrices 3 = .ok (.aload_n 0, 1) := dd_get dm_X8_raisePrices_0 3 rfl
theorem dX8_raisePrices_4 : decode cX8_raisePrices 4 = .ok (.getfield 36, 3) := dd_get dm_X8_raisePrices_0 4 rfl
theorem dX8_raisePrices_7 : decode cX8_raisePrices 7 = .ok (.getfield 44, 3) := dd_get dm_X8_raisePrices_0 5 rfl
theorem dX8_raisePrices_10 : decode cX8_raisePrices 10 = .ok (.if_icmp .ge 33, 3) := dd_get dm_X8_raisePrices_0 6 rfl
theorem dX8_raisePrices_13 : decode cX8_raisePrices 13 = .ok (.aload_n 0, 1) := dd_get dm_X8_raisePrices_0 7 rfl
theorem dX8_raisePrices_14 : decode cX8_raisePrices 14 = .ok (.getfield 36, 3) := dd_get dm_X8_raisePrices_0 8 rfl
theorem dX8_raisePrices_17 : decode cX8_raisePrices 17 = .ok (.iload_n 1, 1) := dd_get dm_X8_raisePrices_0 9 rfl
theorem dX8_raisePrices_18 : decode cX8_raisePrices 18 = .ok (.invokevirtual 49, 3) := dd_get dm_X8_raisePrices_0 10 rfl
theorem dX8_raisePrices_21 : decode cX8_raisePrices 21 = .ok (.ifCond .eq 16, 3) := dd_get dm_X8_raisePrices_0 11 rfl
theorem dX8_raisePrices_24 : decode cX8_raisePrices 24 = .ok (.aload_n 0, 1) := dd_get dm_X8_raisePrices_0 12 rfl
theorem dX8_raisePrices_25 : decode cX8_raisePrices 25 = .ok (.getfield 36, 3) := dd_get dm_X8_raisePrices_0 13 rfl
theorem dX8_raisePrices_28 : decode cX8_raisePrices 28 = .ok (.getfield 77, 3) := dd_get dm_X8_raisePrices_0 14 rfl
theorem dX8_raisePrices_31 : decode cX8_raisePrices 31 = .ok (.iload_n 1, 1) := dd_get dm_X8_raisePrices_0 15 rfl
theorem dX8_raisePrices_32 : decode cX8_raisePrices 32 = .ok (.dup2, 1) := dd_get dm_X8_raisePrices_0 16 rfl
theorem dX8_raisePrices_33 : decode cX8_raisePrices 33 = .ok (.iaload, 1) := dd_get dm_X8_raisePrices_0 17 rfl
theorem dX8_raisePrices_34 : decode cX8_raisePrices 34 = .ok (.iconst 2, 1) := dd_get dm_X8_raisePrices_0 18 rfl
theorem dX8_raisePrices_35 : decode cX8_raisePrices 35 = .ok (.isub, 1) := dd_get dm_X8_raisePrices_0 19 rfl
theorem dX8_raisePrices_36 : decode cX8_raisePrices 36 = .ok (.iastore, 1) := dd_get dm_X8_raisePrices_0 20 rfl
theorem dX8_raisePrices_37 : decode cX8_raisePrices 37 = .ok (.iinc 1 1, 3) := dd_get dm_X8_raisePrices_0 21 rfl
theorem dX8_raisePrices_40 : decode cX8_raisePrices 40 = .ok (.goto (-38), 3) := dd_get dm_X8_raisePrices_0 22 rfl
theorem dX8_raisePrices_43 : decode cX8_raisePrices 43 = .ok (.iconst 0, 1) := dd_get dm_X8_raisePrices_0 23 rfl
theorem dX8_raisePrices_44 : decode cX8_raisePrices 44 = .ok (.istore_n 1, 1) := dd_get dm_X8_raisePrices_0 24 rfl
theorem dX8_raisePrices_45 : decode cX8_raisePrices 45 = .ok (.iload_n 1, 1) := dd_get dm_X8_raisePrices_0 25 rfl
theorem dX8_raisePrices_46 : decode cX8_raisePrices 46 = .ok (.aload_n 0, 1) := dd_get dm_X8_raisePrices_0 26 rfl
theorem dX8_raisePrices_47 : decode cX8_raisePrices 47 = .ok (.getfield 26, 3) := dd_get dm_X8_raisePrices_0 27 rfl
theorem dX8_raisePrices_50 : decode cX8_raisePrices 50 = .ok (.if_icmp .ge 51, 3) := dd_get dm_X8_raisePrices_0 28 rfl
theorem dX8_raisePrices_53 : decode cX8_raisePrices 53 = .ok (.aload_n 0, 1) := dd_get dm_X8_raisePrices_0 29 rfl
theorem dX8_raisePrices_54 : decode cX8_raisePrices 54 = .ok (.getfield 36, 3) := dd_get dm_X8_raisePrices_0 30 rfl
theorem dX8_raisePrices_57 : decode cX8_raisePrices 57 = .ok (.getfield 77, 3) := dd_get dm_X8_raisePrices_0 31 rfl
theorem dX8_raisePrices_60 : decode cX8_raisePrices 60 = .ok (.aload_n 0, 1) := dd_get dm_X8_raisePrices_0 32 rfl
theorem dX8_raisePrices_61 : decode cX8_raisePrices 61 = .ok (.getfield 15, 3) := dd_get dm_X8_raisePrices_0 33 rfl
theorem dX8_raisePrices_64 : decode cX8_raisePrices 64 = .ok (.iload_n 1, 1) := dd_get dm_X8_raisePrices_0 34 rfl
theorem dX8_raisePrices_65 : decode cX8_raisePrices 65 = .ok (.iaload, 1) := dd_get dm_X8_raisePrices_0 35 rfl
theorem dX8_raisePrices_66 : decode cX8_raisePrices 66 = .ok (.invokestatic 64, 3) := dd_get dm_X8_raisePrices_0 36 rfl
theorem dX8_raisePrices_69 : decode cX8_raisePrices 69 = .ok (.dup2, 1) := dd_get dm_X8_raisePrices_0 37 rfl
theorem dX8_raisePrices_70 : decode cX8_raisePrices 70 = .ok (.iaload, 1) := dd_get dm_X8_raisePrices_0 38 rfl
theorem dX8_raisePrices_71 : decode cX8_raisePrices 71 = .ok (.iconst 1, 1) := dd_get dm_X8_raisePrices_0 39 rfl
theorem dX8_raisePrices_72 : decode cX8_raisePrices 72 = .ok (.iadd, 1) := dd_get dm_X8_raisePrices_0 40 rfl
theorem dX8_raisePrices_73 : decode cX8_raisePrices 73 = .ok (.iastore, 1) := dd_get dm_X8_raisePrices_0 41 rfl
theorem dX8_raisePrices_74 : decode cX8_raisePrices 74 = .ok (.aload_n 0, 1) := dd_get dm_X8_raisePrices_0 42 rfl
theorem dX8_raisePrices_75 : decode cX8_raisePrices 75 = .ok (.getfield 36, 3) := dd_get dm_X8_raisePrices_0 43 rfl
theorem dX8_raisePrices_78 : decode cX8_raisePrices 78 = .ok (.getfield 77, 3) := dd_get dm_X8_raisePrices_0 44 rfl
theorem dX8_raisePrices_81 : decode cX8_raisePrices 81 = .ok (.aload_n 0, 1) := dd_get dm_X8_raisePrices_0 45 rfl
theorem dX8_raisePrices_82 : decode cX8_raisePrices 82 = .ok (.getfield 15, 3) := dd_get dm_X8_raisePrices_0 46 rfl
theorem dX8_raisePrices_85 : decode cX8_raisePrices 85 = .ok (.iload_n 1, 1) := dd_get dm_X8_raisePrices_0 47 rfl
theorem dX8_raisePrices_86 : decode cX8_raisePrices 86 = .ok (.iaload, 1) := dd_get dm_X8_raisePrices_0 48 rfl
theorem dX8_raisePrices_87 : decode cX8_raisePrices 87 = .ok (.invokestatic 67, 3) := dd_get dm_X8_raisePrices_0 49 rfl
theorem dX8_raisePrices_90 : decode cX8_raisePrices 90 = .ok (.dup2, 1) := dd_get dm_X8_raisePrices_0 50 rfl
theorem dX8_raisePrices_91 : decode cX8_raisePrices 91 = .ok (.iaload, 1) := dd_get dm_X8_raisePrices_0 51 rfl
theorem dX8_raisePrices_92 : decode cX8_raisePrices 92 = .ok (.iconst 1, 1) := dd_get dm_X8_raisePrices_0 52 rfl
theorem dX8_raisePrices_93 : decode cX8_raisePrices 93 = .ok (.iadd, 1) := dd_get dm_X8_raisePrices_0 53 rfl
theorem dX8_raisePrices_94 : decode cX8_raisePrices 94 = .ok (.iastore, 1) := dd_get dm_X8_raisePrices_0 54 rfl
theorem dX8_raisePrices_95 : decode cX8_raisePrices 95 = .ok (.iinc 1 1, 3) := dd_get dm_X8_raisePrices_0 55 rfl
theorem dX8_raisePrices_98 : decode cX8_raisePrices 98 = .ok (.goto (-53), 3) := dd_get dm_X8_raisePrices_0 56 rfl
theorem dX8_raisePrices_101 : decode cX8_raisePrices 101 = .ok (.return_, 1) := dd_get dm_X8_raisePrices_0 57 rfl
theorem dm_X9_init_0 : (([(0, .aload_n 0, 1), (1, .invokespecial 3, 3), (4, .aload_n 0, 1), (5, .new 9, 3), (8, .dup, 1), (9, .invokespecial 11, 3), (12, .putfield 12, 3), (15, .aload_n 0, 1), (16, .new 16, 3), (19, .dup, 1), (20, .invokespecial 18, 3), (23, .putfield 19, 3), (26, .aload_n 0, 1), (27, .new 23, 3), (30, .dup, 1), (31, .aload_n 0, 1), (32, .getfield 19, 3), (35, .invokespecial 25, 3), (38, .putfield 28, 3), (41, .aload_n 0, 1), (42, .new 32, 3), (45, .dup, 1), (46, .aload_n 0, 1), (47, .getfield 28, 3), (50, .invokespecial 34, 3), (53, .putfield 37, 3), (56, .aload_n 0, 1), (57, .new 41, 3), (60, .dup, 1), (61, .aload_n 0, 1), (62, .getfield 28, 3), (65, .invokespecial 43, 3), (68, .putfield 44, 3), (71, .aload_n 0, 1), (72, .new 48, 3), (75, .dup, 1), (76, .invokespecial 50, 3), (79, .putfield 51, 3), (82, .aload_n 0, 1), (83, .new 55, 3), (86, .dup, 1), (87, .aload_n 0, 1), (88, .getfield 28, 3), (91, .aload_n 0, 1), (92, .getfield 51, 3), (95, .invokespecial 57, 3), (98, .putfield 60, 3), (101, .aload_n 0, 1), (102, .new 64, 3), (105, .dup, 1), (106, .aload_n 0, 1), (107, .getfield 28, 3), (110, .aload_n 0, 1), (111, .getfield 51, 3), (114, .aload_n 0, 1), (115, .getfield 60, 3), (118, .invokespecial 66, 3), (121, .putfield 69, 3), (124, .aload_n 0, 1), (125, .new 73, 3)] : List (Nat × Instr × Nat)).all fun q => decide (decode cX9_init q.1 = .ok (q.2.1, q.2.2))) = true := by decide +kernel
theorem dX9_init_0 : decode cX9_init 0 = .ok (.aload_n 0, 1) := dd_get dm_X9_init_0 0 rfl
theorem dX9_init_1 : decode cX9_init 1 = .ok (.invokespecial 3, 3) := dd_get dm_X9_init_0 1 rfl
theorem dX9_init_4 : decode cX9_init 4 = .ok (.aload_n 0, 1) := dd_get dm_X9_init_0 2 rfl
theorem dX9_init_5 : decode cX9_init 5 = .ok (.new 9, 3) := dd_get dm_X9_init_0 3 rfl
theorem dX9_init_8 : decode cX9_init 8 = .ok (.dup, 1) := dd_get dm_X9_init_0 4 rfl
theorem dX9_init_9 : decode cX9_init 9 = .ok (.invokespecial 11, 3) := dd_get dm_X9_init_0 5 rfl
theorem dX9_init_12 : decode cX9_init 12 = .ok (.putfield 12, 3) := dd_get dm_X9_init_0 6 rfl
theorem dX9_init_15 : decode cX9_init 15 = .ok (.aload_n 0, 1) := dd_get dm_X9_init_0 7 rfl
theorem dX9_init_16 : decode cX9_init 16 = .ok (.new 16, 3) := dd_get dm_X9_init_0 8 rfl
theorem dX9_init_19 : decode cX9_init 19 = .ok (.dup, 1) := dd_get dm_X9_init_0 9 rfl
theorem dX9_init_20 : decode cX9_init 20 = .ok (.invokespecial 18, 3) := dd_get dm_X9_init_0 10 rfl
theorem dX9_init_23 : decode cX9_init 23 = .ok (.putfield 19, 3) := dd_get dm_X9_init_0 11 rfl
theorem dX9_init_26 : decode cX9_init 26 = .ok (.aload_n 0, 1) := dd_get dm_X9_init_0 12 rfl
theorem dX9_init_27 : decode cX9_init 27 = .ok (.new 23, 3) := dd_get dm_X9_init_0 13 rfl
theorem dX9_init_30 : decode cX9_init 30 = .ok (.dup, 1) := dd_get dm_X9_init_0 14 rfl
theorem dX9_init_31 : decode cX9_init 31 = .ok (.aload_n 0, 1) := dd_get dm_X9_init_0 15 rfl
theorem dX9_init_32 : decode cX9_init 32 = .ok (.getfield 19, 3) := dd_get dm_X9_init_0 16 rfl
theorem dX9_init_35 : decode cX9_init 35 = .ok (.invokespecial 25, 3) := dd_get dm_X9_init_0 17 rfl
theorem dX9_init_38 : decode cX9_init 38 = .ok (.putfield 28, 3) := dd_get dm_X9_init_0 18 rfl
theorem dX9_init_41 : decode cX9_init 41 = .ok (.aload_n 0, 1) := dd_get dm_X9_init_0 19 rfl
theorem dX9_init_42 : decode cX9_init 42 = .ok (.new 32, 3) := dd_get dm_X9_init_0 20 rfl
theorem dX9_init_45 : decode cX9_init 45 = .ok (.dup, 1) := dd_get dm_X9_init_0 21 rfl
theorem dX9_init_46 : decode cX9_init 46 = .ok (.aload_n 0, 1) := dd_get dm_X9_init_0 22 rfl
theorem dX9_init_47 : decode cX9_init 47 = .ok (.getfield 28, 3) := dd_get dm_X9_init_0 23 rfl
theorem dX9_init_50 : decode cX9_init 50 = .ok (.invokespecial 34, 3) := dd_get dm_X9_init_0 24 rfl
theorem dX9_init_53 : decode cX9_init 53 = .ok (.putfield 37, 3) := dd_get dm_X9_init_0 25 rfl
theorem dX9_init_56 : decode cX9_init 56 = .ok (.aload_n 0, 1) := dd_get dm_X9_init_0 26 rfl
theorem dX9_init_57 : decode cX9_init 57 = .ok (.new 41, 3) := dd_get dm_X9_init_0 27 rfl
theorem dX9_init_60 : decode cX9_init 60 = .ok (.dup, 1) := dd_get dm_X9_init_0 28 rfl
theorem dX9_init_61 : decode cX9_init 61 = .ok (.aload_n 0, 1) := dd_get dm_X9_init_0 29 rfl
theorem dX9_init_62 : decode cX9_init 62 = .ok (.getfield 28, 3) := dd_get dm_X9_init_0 30 rfl
theorem dX9_init_65 : decode cX9_init 65 = .ok (.invokespecial 43, 3) := dd_get dm_X9_init_0 31 rfl
theorem dX9_init_68 : decode cX9_init 68 = .ok (.putfield 44, 3) := dd_get dm_X9_init_0 32 rfl
theorem dX9_init_71 : decode cX9_init 71 = .ok (.aload_n 0, 1) := dd_get dm_X9_init_0 33 rfl
theorem dX9_init_72 : decode cX9_init 72 = .ok (.new 48, 3) := dd_get dm_X9_init_0 34 rfl
theorem dX9_init_75 : decode cX9_init 75 = .ok (.dup, 1) := dd_get dm_X9_init_0 35 rfl
theorem dX9_init_76 : decode cX9_init 76 = .ok (.invokespecial 50, 3) := dd_get dm_X9_init_0 36 rfl
theorem dX9_init_79 : decode cX9_init 79 = .ok (.putfield 51, 3) := dd_get dm_X9_init_0 37 rfl
theorem dX9_init_82 : decode cX9_init 82 = .ok (.aload_n 0, 1) := dd_get dm_X9_init_0 38 rfl
theorem dX9_init_83 : decode cX9_init 83 = .ok (.new 55, 3) := dd_get dm_X9_init_0 39 rfl
theorem dX9_init_86 : decode cX9_init 86 = .ok (.dup, 1) := dd_get dm_X9_init_0 40 rfl
theorem dX9_init_87 : decode cX9_init 87 = .ok (.aload_n 0, 1) := dd_get dm_X9_init_0 41 rfl
theorem dX9_init_88 : decode cX9_init 88 = .ok (.getfield 28, 3) := dd_get dm_X9_init_0 42 rfl
theorem dX9_init_91 : decode cX9_init 91 = .ok (.aload_n 0, 1) := dd_get dm_X9_init_0 43 rfl
theorem dX9_init_92 : decode cX9_init 92 = .ok (.getfield 51, 3) := dd_get dm_X9_init_0 44 rfl
theorem dX9_init_95 : decode cX9_init 95 = .ok (.invokespecial 57, 3) := dd_get dm_X9_init_0 45 rfl
theorem dX9_init_98 : decode cX9_init 98 = .ok (.putfield 60, 3) := dd_get dm_X9_init_0 46 rfl
theorem dX9_init_101 : decode cX9_init 101 = .ok (.aload_n 0, 1) := dd_get dm_X9_init_0 47 rfl
theorem dX9_init_102 : decode cX9_init 102 = .ok (.new 64, 3) := dd_get dm_X9_init_0 48 rfl
theorem dX9_init_105 : decode cX9_init 105 = .ok (.dup, 1) := dd_get dm_X9_init_0 49 rfl
theorem dX9_init_106 : decode cX9_init 106 = .ok (.aload_n 0, 1) := dd_get dm_X9_init_0 50 rfl
theorem dX9_init_107 : decode cX9_init 107 = .ok (.getfield 28, 3) := dd_get dm_X9_init_0 51 rfl
theorem dX9_init_110 : decode cX9_init 110 = .ok (.aload_n 0, 1) := dd_get dm_X9_init_0 52 rfl
theorem dX9_init_111 : decode cX9_init 111 = .ok (.getfield 51, 3) := dd_get dm_X9_init_0 53 rfl
theorem dX9_init_114 : decode cX9_init 114 = .ok (.aload_n 0, 1) := dd_get dm_X9_init_0 54 rfl
theorem dX9_init_115 : decode cX9_init 115 = .ok (.getfield 60, 3) := dd_get dm_X9_init_0 55 rfl
theorem dX9_init_118 : decode cX9_init 118 = .ok (.invokespecial 66, 3) := dd_get dm_X9_init_0 56 rfl
theorem dX9_init_121 : decode cX9_init 121 = .ok (.putfield 69, 3) := dd_get dm_X9_init_0 57 rfl
theorem dX9_init_124 : decode cX9_init 124 = .ok (.aload_n 0, 1) := dd_get dm_X9_init_0 58 rfl
theorem dX9_init_125 : decode cX9_init 125 = .ok (.new 73, 3) := dd_get dm_X9_init_0 59 rfl
theorem dm_X9_init_1 : (([(128, .dup, 1), (129, .invokespecial 75, 3), (132, .putfield 76, 3), (135, .aload_n 0, 1), (136, .new 73, 3), (139, .dup, 1), (140, .invokespecial 75, 3), (143, .putfield 80, 3), (146, .return_, 1)] : List (Nat × Instr × Nat)).all fun q => decide (decode cX9_init q.1 = .ok (q.2.1, q.2.2))) = true := by decide +kernel
theorem dX9_init_128 : decode cX9_init 128 = .ok (.dup, 1) := dd_get dm_X9_init_1 0 rfl
theorem dX9_init_129 : decode cX9_init 129 = .ok (.invokespecial 75, 3) := dd_get dm_X9_init_1 1 rfl
theorem dX9_init_132 : decode cX9_init 132 = .ok (.putfield 76, 3) := dd_get dm_X9_init_1 2 rfl
theorem dX9_init_135 : decode cX9_init 135 = .ok (.aload_n 0, 1) := dd_get dm_X9_init_1 3 rfl
theorem dX9_init_136 : decode cX9_init 136 = .ok (.new 73, 3) := dd_get dm_X9_init_1 4 rfl
theorem dX9_init_139 : decode cX9_init 139 = .ok (.dup, 1) := dd_get dm_X9_init_1 5 rfl
theorem dX9_init_140 : decode cX9_init 140 = .ok (.invokespecial 75, 3) := dd_get dm_X9_init_1 6 rfl
theorem dX9_init_143 : decode cX9_init 143 = .ok (.putfield 80, 3) := dd_get dm_X9_init_1 7 rfl
theorem dX9_init_146 : decode cX9_init 146 = .ok (.return_, 1) := dd_get dm_X9_init_1 8 rfl
theorem dm_X9_lane_0 : (([(0, .iload_n 1, 1), (1, .invokestatic 83, 3), (4, .ifCond .eq 23, 3), (7, .iload_n 2, 1), (8, .invokestatic 83, 3), (11, .ifCond .eq 16, 3), (14, .iload_n 1, 1), (15, .iload_n 2, 1), (16, .if_icmp .eq 11, 3), (19, .iload_n 3, 1), (20, .i2l, 1), (21, .invokestatic 87, 3), (24, .ifCond .ne 5, 3), (27, .iconst (-1), 1), (28, .ireturn, 1), (29, .aload_n 0, 1), (30, .getfield 19, 3), (33, .getfield 91, 3), (36, .bipush 100, 2), (38, .if_icmp .lt 6, 3), (41, .bipush (-2), 2), (43, .ireturn, 1), (44, .aload_n 0, 1), (45, .getfield 19, 3), (48, .iload_n 1, 1), (49, .iload_n 2, 1), (50, .iload_n 3, 1), (51, .invokevirtual 95, 3), (54, .istore 4, 2), (56, .aload_n 0, 1), (57, .invokevirtual 99, 3), (60, .iload 4, 2), (62, .ireturn, 1)] : List (Nat × Instr × Nat)).all fun q => decide (decode cX9_lane q.1 = .ok (q.2.1, q.2.2))) = true := by decide +kernel
theorem dX9_lane_0 : decode cX9_lane 0 = .ok (.iload_n 1, 1) := dd_get dm_X9_lane_0 0 rfl
theorem dX9_lane_1 : decode cX9_lane 1 = .ok (.invokestatic 83, 3) := dd_get dm_X9_lane_0 1 rfl
theorem dX9_lane_4 : decode cX9_lane 4 = .ok (.ifCond .eq 23, 3) := dd_get dm_X9_lane_0 2 rfl
theorem dX9_lane_7 : decode cX9_lane 7 = .ok (.iload_n 2, 1) := dd_get dm_X9_lane_0 3 rfl
theorem dX9_lane_8 : decode cX9_lane 8 = .ok (.invokestatic 83, 3) := dd_get dm_X9_lane_0 4 rfl
theorem dX9_lane_11 : decode cX9_lane 11 = .ok (.ifCond .eq 16, 3) := dd_get dm_X9_lane_0 5 rfl
theorem dX9_lane_14 : decode cX9_lane 14 = .ok (.iload_n 1, 1) := dd_get dm_X9_lane_0 6 rfl
theorem dX9_lane_15 : decode cX9_lane 15 = .ok (.iload_n 2, 1) := dd_get dm_X9_lane_0 7 rfl
theorem dX9_lane_16 : decode cX9_lane 16 = .ok (.if_icmp .eq 11, 3) := dd_get dm_X9_lane_0 8 rfl
theorem dX9_lane_19 : decode cX9_lane 19 = .ok (.iload_n 3, 1) := dd_get dm_X9_lane_0 9 rfl
theorem dX9_lane_20 : decode cX9_lane 20 = .ok (.i2l, 1) := dd_get dm_X9_lane_0 10 rfl
theorem dX9_lane_21 : decode cX9_lane 21 = .ok (.invokestatic 87, 3) := dd_get dm_X9_lane_0 11 rfl
theorem dX9_lane_24 : decode cX9_lane 24 = .ok (.ifCond .ne 5, 3) := dd_get dm_X9_lane_0 12 rfl
theorem dX9_lane_27 : decode cX9_lane 27 = .ok (.iconst (-1), 1) := dd_get dm_X9_lane_0 13 rfl
theorem dX9_lane_28 : decode cX9_lane 28 = .ok (.ireturn, 1) := dd_get dm_X9_lane_0 14 rfl
theorem dX9_lane_29 : decode cX9_lane 29 = .ok (.aload_n 0, 1) := dd_get dm_X9_lane_0 15 rfl
theorem dX9_lane_30 : decode cX9_lane 30 = .ok (.getfield 19, 3) := dd_get dm_X9_lane_0 16 rfl
theorem dX9_lane_33 : decode cX9_lane 33 = .ok (.getfield 91, 3) := dd_get dm_X9_lane_0 17 rfl
theorem dX9_lane_36 : decode cX9_lane 36 = .ok (.bipush 100, 2) := dd_get dm_X9_lane_0 18 rfl
theorem dX9_lane_38 : decode cX9_lane 38 = .ok (.if_icmp .lt 6, 3) := dd_get dm_X9_lane_0 19 rfl
theorem dX9_lane_41 : decode cX9_lane 41 = .ok (.bipush (-2), 2) := dd_get dm_X9_lane_0 20 rfl
theorem dX9_lane_43 : decode cX9_lane 43 = .ok (.ireturn, 1) := dd_get dm_X9_lane_0 21 rfl
theorem dX9_lane_44 : decode cX9_lane 44 = .ok (.aload_n 0, 1) := dd_get dm_X9_lane_0 22 rfl
theorem dX9_lane_45 : decode cX9_lane 45 = .ok (.getfield 19, 3) := dd_get dm_X9_lane_0 23 rfl
theorem dX9_lane_48 : decode cX9_lane 48 = .ok (.iload_n 1, 1) := dd_get dm_X9_lane_0 24 rfl
theorem dX9_lane_49 : decode cX9_lane 49 = .ok (.iload_n 2, 1) := dd_get dm_X9_lane_0 25 rfl
theorem dX9_lane_50 : decode cX9_lane 50 = .ok (.iload_n 3, 1) := dd_get dm_X9_lane_0 26 rfl
theorem dX9_lane_51 : decode cX9_lane 51 = .ok (.invokevirtual 95, 3) := dd_get dm_X9_lane_0 27 rfl
theorem dX9_lane_54 : decode cX9_lane 54 = .ok (.istore 4, 2) := dd_get dm_X9_lane_0 28 rfl
theorem dX9_lane_56 : decode cX9_lane 56 = .ok (.aload_n 0, 1) := dd_get dm_X9_lane_0 29 rfl
theorem dX9_lane_57 : decode cX9_lane 57 = .ok (.invokevirtual 99, 3) := dd_get dm_X9_lane_0 30 rfl
theorem dX9_lane_60 : decode cX9_lane 60 = .ok (.iload 4, 2) := dd_get dm_X9_lane_0 31 rfl
theorem dX9_lane_62 : decode cX9_lane 62 = .ok (.ireturn, 1) := dd_get dm_X9_lane_0 32 rfl
theorem dm_X9_open_0 : (([(0, .aload_n 0, 1), (1, .getfield 19, 3), (4, .iload_n 1, 1), (5, .invokevirtual 102, 3), (8, .ifCond .ne 5, 3), (11, .iconst (-1), 1), (12, .ireturn, 1), (13, .aload_n 0, 1), (14, .getfield 19, 3), (17, .getfield 105, 3), (20, .iload_n 1, 1), (21, .baload, 1), (22, .iload_n 2, 1), (23, .if_icmp .ne 5, 3), (26, .iconst 0, 1), (27, .ireturn, 1), (28, .aload_n 0, 1), (29, .getfield 19, 3), (32, .getfield 105, 3), (35, .iload_n 1, 1), (36, .iload_n 2, 1), (37, .bastore, 1), (38, .aload_n 0, 1), (39, .invokevirtual 99, 3), (42, .iconst 1, 1), (43, .ireturn, 1)] : List (Nat × Instr × Nat)).all fun q => decide (decode cX9_open q.1 = .ok (q.2.1, q.2.2))) = true := by decide +kernel
theorem dX9_open_0 : decode cX9_open 0 = .ok (.aload_n 0, 1) := dd_get dm_X9_open_0 0 rfl
theorem dX9_open_1 : decode cX9_open 1 = .ok (.getfield 19, 3) := dd_get dm_X9_open_0 1 rfl
theorem dX9_open_4 : decode cX9_open 4 = .ok (.iload_n 1, 1) := dd_get dm_X9_open_0 2 rfl
theorem dX9_open_5 : decode cX9_open 5 = .ok (.invokevirtual 102, 3) := dd_get dm_X9_open_0 3 rfl
theorem dX9_open_8 : decode cX9_open 8 = .ok (.ifCond .ne 5, 3) := dd_get dm_X9_open_0 4 rfl
theorem dX9_open_11 : decode cX9_open 11 = .ok (.iconst (-1), 1) := dd_get dm_X9_open_0 5 rfl
theorem dX9_open_12 : decode cX9_open 12 = .ok (.ireturn, 1) := dd_get dm_X9_open_0 6 rfl
theorem dX9_open_13 : decode cX9_open 13 = .ok (.aload_n 0, 1) := dd_get dm_X9_open_0 7 rfl
theorem dX9_open_14 : decode cX9_open 14 = .ok (.getfield 19, 3) := dd_get dm_X9_open_0 8 rfl
theorem dX9_open_17 : decode cX9_open 17 = .ok (.getfield 105, 3) := dd_get dm_X9_open_0 9 rfl
theorem dX9_open_20 : decode cX9_open 20 = .ok (.iload_n 1, 1) := dd_get dm_X9_open_0 10 rfl
theorem dX9_open_21 : decode cX9_open 21 = .ok (.baload, 1) := dd_get dm_X9_open_0 11 rfl
theorem dX9_open_22 : decode cX9_open 22 = .ok (.iload_n 2, 1) := dd_get dm_X9_open_0 12 rfl
theorem dX9_open_23 : decode cX9_open 23 = .ok (.if_icmp .ne 5, 3) := dd_get dm_X9_open_0 13 rfl
theorem dX9_open_26 : decode cX9_open 26 = .ok (.iconst 0, 1) := dd_get dm_X9_open_0 14 rfl
theorem dX9_open_27 : decode cX9_open 27 = .ok (.ireturn, 1) := dd_get dm_X9_open_0 15 rfl
theorem dX9_open_28 : decode cX9_open 28 = .ok (.aload_n 0, 1) := dd_get dm_X9_open_0 16 rfl
theorem dX9_open_29 : decode cX9_open 29 = .ok (.getfield 19, 3) := dd_get dm_X9_open_0 17 rfl
theorem dX9_open_32 : decode cX9_open 32 = .ok (.getfield 105, 3) := dd_get dm_X9_open_0 18 rfl
theorem dX9_open_35 : decode cX9_open 35 = .ok (.iload_n 1, 1) := dd_get dm_X9_open_0 19 rfl
theorem dX9_open_36 : decode cX9_open 36 = .ok (.iload_n 2, 1) := dd_get dm_X9_open_0 20 rfl
theorem dX9_open_37 : decode cX9_open 37 = .ok (.bastore, 1) := dd_get dm_X9_open_0 21 rfl
theorem dX9_open_38 : decode cX9_open 38 = .ok (.aload_n 0, 1) := dd_get dm_X9_open_0 22 rfl
theorem dX9_open_39 : decode cX9_open 39 = .ok (.invokevirtual 99, 3) := dd_get dm_X9_open_0 23 rfl
theorem dX9_open_42 : decode cX9_open 42 = .ok (.iconst 1, 1) := dd_get dm_X9_open_0 24 rfl
theorem dX9_open_43 : decode cX9_open 43 = .ok (.ireturn, 1) := dd_get dm_X9_open_0 25 rfl
theorem dm_X9_about_0 : (([(0, .aload_n 0, 1), (1, .getfield 19, 3), (4, .iload_n 1, 1), (5, .invokevirtual 102, 3), (8, .ifCond .ne 5, 3), (11, .iconst (-1), 1), (12, .ireturn, 1), (13, .iload_n 2, 1), (14, .tableswitch 78 0 3 #[30, 40, 50, 60], 30), (44, .aload_n 0, 1), (45, .getfield 19, 3), (48, .getfield 109, 3), (51, .iload_n 1, 1), (52, .iaload, 1), (53, .ireturn, 1), (54, .aload_n 0, 1), (55, .getfield 19, 3), (58, .getfield 113, 3), (61, .iload_n 1, 1), (62, .iaload, 1), (63, .ireturn, 1), (64, .aload_n 0, 1), (65, .getfield 19, 3), (68, .getfield 116, 3), (71, .iload_n 1, 1), (72, .iaload, 1), (73, .ireturn, 1), (74, .aload_n 0, 1), (75, .getfield 19, 3), (78, .getfield 105, 3), (81, .iload_n 1, 1), (82, .baload, 1), (83, .ifCond .eq 7, 3), (86, .iconst 1, 1), (87, .goto 4, 3), (90, .iconst 0, 1), (91, .ireturn, 1), (92, .iconst (-1), 1), (93, .ireturn, 1)] : List (Nat × Instr × Nat)).all fun q => decide (decode cX9_about q.1 = .ok (q.2.1, q.2.2))) = true := by decide +kernel
theorem dX9_about_0 : decode cX9_about 0 = .ok (.aload_n 0, 1) := dd_get dm_X9_about_0 0 rfl
theorem dX9_about_1 : decode cX9_about 1 = .ok (.getfield 19, 3) := dd_get dm_X9_about_0 1 rfl
theorem dX9_about_4 : decode cX9_about 4 = .ok (.iload_n 1, 1) := dd_get dm_X9_about_0 2 rfl
theorem dX9_about_5 : decode cX9_about 5 = .ok (.invokevirtual 102, 3) := dd_get dm_X9_about_0 3 rfl
theorem dX9_about_8 : decode cX9_about 8 = .ok (.ifCond .ne 5, 3) := dd_get dm_X9_about_0 4 rfl
theorem dX9_about_11 : decode cX9_about 11 = .ok (.iconst (-1), 1) := dd_get dm_X9_about_0 5 rfl
theorem dX9_about_12 : decode cX9_about 12 = .ok (.ireturn, 1) := dd_get dm_X9_about_0 6 rfl
theorem dX9_about_13 : decode cX9_about 13 = .ok (.iload_n 2, 1) := dd_get dm_X9_about_0 7 rfl
theorem dX9_about_14 : decode cX9_about 14 = .ok (.tableswitch 78 0 3 #[30, 40, 50, 60], 30) := dd_get dm_X9_about_0 8 rfl
theorem dX9_about_44 : decode cX9_about 44 = .ok (.aload_n 0, 1) := dd_get dm_X9_about_0 9 rfl
theorem dX9_about_45 : decode cX9_about 45 = .ok (.getfield 19, 3) := dd_get dm_X9_about_0 10 rfl
theorem dX9_about_48 : decode cX9_about 48 = .ok (.getfield 109, 3) := dd_get dm_X9_about_0 11 rfl
theorem dX9_about_51 : decode cX9_about 51 = .ok (.iload_n 1, 1) := dd_get dm_X9_about_0 12 rfl
theorem dX9_about_52 : decode cX9_about 52 = .ok (.iaload, 1) := dd_get dm_X9_about_0 13 rfl
theorem dX9_about_53 : decode cX9_about 53 = .ok (.ireturn, 1) := dd_get dm_X9_about_0 14 rfl
theorem dX9_about_54 : decode cX9_about 54 = .ok (.aload_n 0, 1) := dd_get dm_X9_about_0 15 rfl
theorem dX9_about_55 : decode cX9_about 55 = .ok (.getfield 19, 3) := dd_get dm_X9_about_0 16 rfl
theorem dX9_about_58 : decode cX9_about 58 = .ok (.getfield 113, 3) := dd_get dm_X9_about_0 17 rfl
theorem dX9_about_61 : decode cX9_about 61 = .ok (.iload_n 1, 1) := dd_get dm_X9_about_0 18 rfl
theorem dX9_about_62 : decode cX9_about 62 = .ok (.iaload, 1) := dd_get dm_X9_about_0 19 rfl
theorem dX9_about_63 : decode cX9_about 63 = .ok (.ireturn, 1) := dd_get dm_X9_about_0 20 rfl
theorem dX9_about_64 : decode cX9_about 64 = .ok (.aload_n 0, 1) := dd_get dm_X9_about_0 21 rfl
theorem dX9_about_65 : decode cX9_about 65 = .ok (.getfield 19, 3) := dd_get dm_X9_about_0 22 rfl
theorem dX9_about_68 : decode cX9_about 68 = .ok (.getfield 116, 3) := dd_get dm_X9_about_0 23 rfl
theorem dX9_about_71 : decode cX9_about 71 = .ok (.iload_n 1, 1) := dd_get dm_X9_about_0 24 rfl
theorem dX9_about_72 : decode cX9_about 72 = .ok (.iaload, 1) := dd_get dm_X9_about_0 25 rfl
theorem dX9_about_73 : decode cX9_about 73 = .ok (.ireturn, 1) := dd_get dm_X9_about_0 26 rfl
theorem dX9_about_74 : decode cX9_about 74 = .ok (.aload_n 0, 1) := dd_get dm_X9_about_0 27 rfl
theorem dX9_about_75 : decode cX9_about 75 = .ok (.getfield 19, 3) := dd_get dm_X9_about_0 28 rfl
theorem dX9_about_78 : decode cX9_about 78 = .ok (.getfield 105, 3) := dd_get dm_X9_about_0 29 rfl
theorem dX9_about_81 : decode cX9_about 81 = .ok (.iload_n 1, 1) := dd_get dm_X9_about_0 30 rfl
theorem dX9_about_82 : decode cX9_about 82 = .ok (.baload, 1) := dd_get dm_X9_about_0 31 rfl
theorem dX9_about_83 : decode cX9_about 83 = .ok (.ifCond .eq 7, 3) := dd_get dm_X9_about_0 32 rfl
theorem dX9_about_86 : decode cX9_about 86 = .ok (.iconst 1, 1) := dd_get dm_X9_about_0 33 rfl
theorem dX9_about_87 : decode cX9_about 87 = .ok (.goto 4, 3) := dd_get dm_X9_about_0 34 rfl
theorem dX9_about_90 : decode cX9_about 90 = .ok (.iconst 0, 1) := dd_get dm_X9_about_0 35 rfl
theorem dX9_about_91 : decode cX9_about 91 = .ok (.ireturn, 1) := dd_get dm_X9_about_0 36 rfl
theorem dX9_about_92 : decode cX9_about 92 = .ok (.iconst (-1), 1) := dd_get dm_X9_about_0 37 rfl
theorem dX9_about_93 : decode cX9_about 93 = .ok (.ireturn, 1) := dd_get dm_X9_about_0 38 rfl
theorem dm_X9_row_0 : (([(0, .aload_n 0, 1), (1, .getfield 12, 3), (4, .iload_n 1, 1), (5, .invokevirtual 119, 3), (8, .ifCond .eq 12, 3), (11, .iload_n 2, 1), (12, .ifCond .lt 8, 3), (15, .iload_n 2, 1), (16, .iconst 2, 1), (17, .if_icmp .le 5, 3), (20, .iconst (-1), 1), (21, .ireturn, 1), (22, .iload_n 3, 1), (23, .ifCond .ge 6, 3), (26, .bipush (-6), 2), (28, .ireturn, 1), (29, .iload_n 3, 1), (30, .bipush 50, 2), (32, .if_icmp .le 5, 3), (35, .iconst (-1), 1), (36, .ireturn, 1), (37, .aload_n 0, 1), (38, .getfield 12, 3), (41, .iload_n 1, 1), (42, .iload_n 2, 1), (43, .iload_n 3, 1), (44, .invokevirtual 122, 3), (47, .iconst 1, 1), (48, .ireturn, 1)] : List (Nat × Instr × Nat)).all fun q => decide (decode cX9_row q.1 = .ok (q.2.1, q.2.2))) = true := by decide +kernel
theorem dX9_row_0 : decode cX9_row 0 = .ok (.aload_n 0, 1) := dd_get dm_X9_row_0 0 rfl
theorem dX9_row_1 : decode cX9_row 1 = .ok (.getfield 12, 3) := dd_get dm_X9_row_0 1 rfl
theorem dX9_row_4 : decode cX9_row 4 = .ok (.iload_n 1, 1) := dd_get dm_X9_row_0 2 rfl
theorem dX9_row_5 : decode cX9_row 5 = .ok (.invokevirtual 119, 3) := dd_get dm_X9_row_0 3 rfl
theorem dX9_row_8 : decode cX9_row 8 = .ok (.ifCond .eq 12, 3) := dd_get dm_X9_row_0 4 rfl
theorem dX9_row_11 : decode cX9_row 11 = .ok (.iload_n 2, 1) := dd_get dm_X9_row_0 5 rfl
theorem dX9_row_12 : decode cX9_row 12 = .ok (.ifCond .lt 8, 3) := dd_get dm_X9_row_0 6 rfl
theorem dX9_row_15 : decode cX9_row 15 = .ok (.iload_n 2, 1) := dd_get dm_X9_row_0 7 rfl
theorem dX9_row_16 : decode cX9_row 16 = .ok (.iconst 2, 1) := dd_get dm_X9_row_0 8 rfl
theorem dX9_row_17 : decode cX9_row 17 = .ok (.if_icmp .le 5, 3) := dd_get dm_X9_row_0 9 rfl
theorem dX9_row_20 : decode cX9_row 20 = .ok (.iconst (-1), 1) := dd_get dm_X9_row_0 10 rfl
theorem dX9_row_21 : decode cX9_row 21 = .ok (.ireturn, 1) := dd_get dm_X9_row_0 11 rfl
theorem dX9_row_22 : decode cX9_row 22 = .ok (.iload_n 3, 1) := dd_get dm_X9_row_0 12 rfl
theorem dX9_row_23 : decode cX9_row 23 = .ok (.ifCond .ge 6, 3) := dd_get dm_X9_row_0 13 rfl
theorem dX9_row_26 : decode cX9_row 26 = .ok (.bipush (-6), 2) := dd_get dm_X9_row_0 14 rfl
theorem dX9_row_28 : decode cX9_row 28 = .ok (.ireturn, 1) := dd_get dm_X9_row_0 15 rfl
theorem dX9_row_29 : decode cX9_row 29 = .ok (.iload_n 3, 1) := dd_get dm_X9_row_0 16 rfl
theorem dX9_row_30 : decode cX9_row 30 = .ok (.bipush 50, 2) := dd_get dm_X9_row_0 17 rfl
theorem dX9_row_32 : decode cX9_row 32 = .ok (.if_icmp .le 5, 3) := dd_get dm_X9_row_0 18 rfl
theorem dX9_row_35 : decode cX9_row 35 = .ok (.iconst (-1), 1) := dd_get dm_X9_row_0 19 rfl
theorem dX9_row_36 : decode cX9_row 36 = .ok (.ireturn, 1) := dd_get dm_X9_row_0 20 rfl
theorem dX9_row_37 : decode cX9_row 37 = .ok (.aload_n 0, 1) := dd_get dm_X9_row_0 21 rfl
theorem dX9_row_38 : decode cX9_row 38 = .ok (.getfield 12, 3) := dd_get dm_X9_row_0 22 rfl
theorem dX9_row_41 : decode cX9_row 41 = .ok (.iload_n 1, 1) := dd_get dm_X9_row_0 23 rfl
theorem dX9_row_42 : decode cX9_row 42 = .ok (.iload_n 2, 1) := dd_get dm_X9_row_0 24 rfl
theorem dX9_row_43 : decode cX9_row 43 = .ok (.iload_n 3, 1) := dd_get dm_X9_row_0 25 rfl
theorem dX9_row_44 : decode cX9_row 44 = .ok (.invokevirtual 122, 3) := dd_get dm_X9_row_0 26 rfl
theorem dX9_row_47 : decode cX9_row 47 = .ok (.iconst 1, 1) := dd_get dm_X9_row_0 27 rfl
theorem dX9_row_48 : decode cX9_row 48 = .ok (.ireturn, 1) := dd_get dm_X9_row_0 28 rfl
