section JR
variable {κ : Cx} {g : Gx} {own : String} {cc : ByteArray} {Ts : List Cond} {nL : Nat} {rm : Room} {X M : ST} {lv : List (Nat × Value)} {pc pc' : Nat} {st : List Value}
theorem wg_0 (g : Gx) (X M : ST) : (ww g X M)[0]? = some (g.2.1 0, .inr (9, [.ref (g.2.1 1), .ref (g.2.1 2), .ref (g.2.1 3), .ref (g.2.1 4), .ref (g.2.1 5), .ref (g.2.1 6), .ref (g.2.1 7), .ref (g.2.1 8), .ref (g.2.1 9), .ref (g.2.1 10)])) := rfl
theorem wg_1 (g : Gx) (X M : ST) : (ww g X M)[1]? = some (g.2.1 1, .inr (4, [.ref (g.2.1 12), .ref (g.2.1 13), .ref (g.2.1 14)])) := rfl
theorem wg_2 (g : Gx) (X M : ST) : (ww g X M)[2]? = some (g.2.1 2, .inr (7, [.ref (g.2.1 15), .ref (g.2.1 16), .ref (g.2.1 17), .ref (g.2.1 18), .ref (g.2.1 19), .long (X.2.1 0), .int (X.1 0)])) := rfl
theorem wg_3 (g : Gx) (X M : ST) : (ww g X M)[3]? = some (g.2.1 3, .inr (2, [.ref (g.2.1 2), .ref (g.2.1 20), .ref (g.2.1 21), .ref (g.2.1 22), .ref (g.2.1 23), .ref (g.2.1 24), .ref (g.2.1 25), .ref (g.2.1 26), .int (X.1 1), .int (X.1 2), .int (X.1 3)])) := rfl
theorem wg_4 (g : Gx) (X M : ST) : (ww g X M)[4]? = some (g.2.1 4, .inr (6, [.ref (g.2.1 3), .ref (g.2.1 27), .int (X.1 4)])) := rfl
theorem wg_5 (g : Gx) (X M : ST) : (ww g X M)[5]? = some (g.2.1 5, .inr (5, [.ref (g.2.1 3), .ref (g.2.1 28), .ref (g.2.1 29), .ref (g.2.1 30), .ref (g.2.1 31), .ref (g.2.1 32), .ref (g.2.1 33), .int (X.1 5), .int (X.1 6), .int (X.1 7)])) := rfl
theorem wg_6 (g : Gx) (X M : ST) : (ww g X M)[6]? = some (g.2.1 6, .inr (0, [.ref (g.2.1 34), .ref (g.2.1 35), .ref (g.2.1 36), .ref (g.2.1 37), .int (X.1 8), .int (X.1 9)])) := rfl
theorem wg_7 (g : Gx) (X M : ST) : (ww g X M)[7]? = some (g.2.1 7, .inr (8, [.ref (g.2.1 3), .ref (g.2.1 6), .ref (g.2.1 38), .ref (g.2.1 39), .ref (g.2.1 40), .int (X.1 10), .int (X.1 11), .int (X.1 12), .long (X.2.1 1)])) := rfl
theorem wg_8 (g : Gx) (X M : ST) : (ww g X M)[8]? = some (g.2.1 8, .inr (1, [.ref (g.2.1 3), .ref (g.2.1 6), .ref (g.2.1 7)])) := rfl
theorem wg_9 (g : Gx) (X M : ST) : (ww g X M)[9]? = some (g.2.1 9, .inr (3, [.ref (g.2.1 41), .ref (g.2.1 42), .ref (g.2.1 43), .int (X.1 13)])) := rfl
theorem wg_10 (g : Gx) (X M : ST) : (ww g X M)[10]? = some (g.2.1 10, .inr (3, [.ref (g.2.1 44), .ref (g.2.1 45), .ref (g.2.1 46), .int (X.1 14)])) := rfl
theorem wg_11 (g : Gx) (X M : ST) : (ww g X M)[11]? = some (g.2.1 11, .inr (10, [.int (M.1 15), .ref (g.2.1 47), .ref (g.2.1 48), .ref (g.2.1 49), .ref (g.2.1 50), .ref (g.2.1 51), .ref (g.2.1 52), .ref (g.2.1 53), .ref (g.2.1 54), .int (M.1 16), .ref (g.2.1 55), .ref (g.2.1 56), .ref (g.2.1 57), .ref (g.2.1 58), .ref (g.2.1 59), .int (M.1 17), .ref (g.2.1 60), .int (M.1 18), .ref (g.2.1 61), .ref (g.2.1 62), .ref (g.2.1 63), .ref (g.2.1 64), .ref (g.2.1 65), .ref (g.2.1 66), .ref (g.2.1 67), .ref (g.2.1 68), .ref (g.2.1 69), .int (M.1 19), .ref (g.2.1 70), .ref (g.2.1 71), .int (M.1 20), .ref (g.2.1 72), .ref (g.2.1 73), .ref (g.2.1 74), .ref (g.2.1 75), .int (M.1 21)])) := rfl
theorem wg_12 (g : Gx) (X M : ST) : (ww g X M)[12]? = some (g.2.1 12, .inl (g.2.2 4, 4, .inr (.inr (.inr (.inr (fun i => if i < 4 then some (g.2.1 (i + 300)) else none)))))) := rfl
theorem wg_13 (g : Gx) (X M : ST) : (ww g X M)[13]? = some (g.2.1 13, .inl (g.2.2 0, 4, .inl (X.2.2.1 13))) := rfl
theorem wg_14 (g : Gx) (X M : ST) : (ww g X M)[14]? = some (g.2.1 14, .inl (g.2.2 0, 4, .inl (X.2.2.1 14))) := rfl
theorem wg_15 (g : Gx) (X M : ST) : (ww g X M)[15]? = some (g.2.1 15, .inl (g.2.2 0, 100, .inl (X.2.2.1 15))) := rfl
theorem wg_16 (g : Gx) (X M : ST) : (ww g X M)[16]? = some (g.2.1 16, .inl (g.2.2 0, 100, .inl (X.2.2.1 16))) := rfl
theorem wg_17 (g : Gx) (X M : ST) : (ww g X M)[17]? = some (g.2.1 17, .inl (g.2.2 0, 100, .inl (X.2.2.1 17))) := rfl
theorem wg_18 (g : Gx) (X M : ST) : (ww g X M)[18]? = some (g.2.1 18, .inl (g.2.2 2, 100, .inl (X.2.2.1 18))) := rfl
theorem wg_19 (g : Gx) (X M : ST) : (ww g X M)[19]? = some (g.2.1 19, .inl (g.2.2 3, 40, .inr (.inr (.inr (.inr (fun i => if i < 40 then some (g.2.1 (i + 100)) else none)))))) := rfl
theorem wg_20 (g : Gx) (X M : ST) : (ww g X M)[20]? = some (g.2.1 20, .inl (g.2.2 0, 12, .inl (X.2.2.1 20))) := rfl
theorem wg_21 (g : Gx) (X M : ST) : (ww g X M)[21]? = some (g.2.1 21, .inl (g.2.2 0, 12, .inl (X.2.2.1 21))) := rfl
theorem wg_22 (g : Gx) (X M : ST) : (ww g X M)[22]? = some (g.2.1 22, .inl (g.2.2 0, 12, .inl (X.2.2.1 22))) := rfl
theorem wg_23 (g : Gx) (X M : ST) : (ww g X M)[23]? = some (g.2.1 23, .inl (g.2.2 0, 12, .inl (X.2.2.1 23))) := rfl
theorem wg_24 (g : Gx) (X M : ST) : (ww g X M)[24]? = some (g.2.1 24, .inl (g.2.2 0, 12, .inl (X.2.2.1 24))) := rfl
theorem wg_25 (g : Gx) (X M : ST) : (ww g X M)[25]? = some (g.2.1 25, .inl (g.2.2 0, 12, .inl (X.2.2.1 25))) := rfl
theorem wg_26 (g : Gx) (X M : ST) : (ww g X M)[26]? = some (g.2.1 26, .inl (g.2.2 3, 12, .inr (.inr (.inr (.inr (fun i => if i < 12 then some (g.2.1 (i + 200)) else none)))))) := rfl
theorem wg_27 (g : Gx) (X M : ST) : (ww g X M)[27]? = some (g.2.1 27, .inl (g.2.2 0, 12, .inl (X.2.2.1 27))) := rfl
theorem wg_28 (g : Gx) (X M : ST) : (ww g X M)[28]? = some (g.2.1 28, .inl (g.2.2 0, 12, .inl (X.2.2.1 28))) := rfl
theorem wg_29 (g : Gx) (X M : ST) : (ww g X M)[29]? = some (g.2.1 29, .inl (g.2.2 0, 12, .inl (X.2.2.1 29))) := rfl
theorem wg_30 (g : Gx) (X M : ST) : (ww g X M)[30]? = some (g.2.1 30, .inl (g.2.2 0, 8, .inl (X.2.2.1 30))) := rfl
theorem wg_31 (g : Gx) (X M : ST) : (ww g X M)[31]? = some (g.2.1 31, .inl (g.2.2 0, 8, .inl (X.2.2.1 31))) := rfl
theorem wg_32 (g : Gx) (X M : ST) : (ww g X M)[32]? = some (g.2.1 32, .inl (g.2.2 0, 8, .inl (X.2.2.1 32))) := rfl
theorem wg_33 (g : Gx) (X M : ST) : (ww g X M)[33]? = some (g.2.1 33, .inl (g.2.2 0, 8, .inl (X.2.2.1 33))) := rfl
theorem wg_34 (g : Gx) (X M : ST) : (ww g X M)[34]? = some (g.2.1 34, .inl (g.2.2 0, 12, .inl (X.2.2.1 34))) := rfl
theorem wg_35 (g : Gx) (X M : ST) : (ww g X M)[35]? = some (g.2.1 35, .inl (g.2.2 0, 12, .inl (X.2.2.1 35))) := rfl
theorem wg_36 (g : Gx) (X M : ST) : (ww g X M)[36]? = some (g.2.1 36, .inl (g.2.2 0, 66, .inl (X.2.2.1 36))) := rfl
theorem wg_37 (g : Gx) (X M : ST) : (ww g X M)[37]? = some (g.2.1 37, .inl (g.2.2 2, 66, .inl (X.2.2.1 37))) := rfl
theorem wg_38 (g : Gx) (X M : ST) : (ww g X M)[38]? = some (g.2.1 38, .inl (g.2.2 1, 66, .inr (.inl (X.2.2.2 38)))) := rfl
theorem wg_39 (g : Gx) (X M : ST) : (ww g X M)[39]? = some (g.2.1 39, .inl (g.2.2 0, 12, .inl (X.2.2.1 39))) := rfl
theorem wg_40 (g : Gx) (X M : ST) : (ww g X M)[40]? = some (g.2.1 40, .inl (g.2.2 0, 12, .inl (X.2.2.1 40))) := rfl
theorem wg_41 (g : Gx) (X M : ST) : (ww g X M)[41]? = some (g.2.1 41, .inl (g.2.2 0, 400, .inl (X.2.2.1 41))) := rfl
theorem wg_42 (g : Gx) (X M : ST) : (ww g X M)[42]? = some (g.2.1 42, .inl (g.2.2 0, 400, .inl (X.2.2.1 42))) := rfl
theorem wg_43 (g : Gx) (X M : ST) : (ww g X M)[43]? = some (g.2.1 43, .inl (g.2.2 0, 400, .inl (X.2.2.1 43))) := rfl
theorem wg_44 (g : Gx) (X M : ST) : (ww g X M)[44]? = some (g.2.1 44, .inl (g.2.2 0, 400, .inl (X.2.2.1 44))) := rfl
theorem wg_45 (g : Gx) (X M : ST) : (ww g X M)[45]? = some (g.2.1 45, .inl (g.2.2 0, 400, .inl (X.2.2.1 45))) := rfl
theorem wg_46 (g : Gx) (X M : ST) : (ww g X M)[46]? = some (g.2.1 46, .inl (g.2.2 0, 400, .inl (X.2.2.1 46))) := rfl
theorem wg_47 (g : Gx) (X M : ST) : (ww g X M)[47]? = some (g.2.1 47, .inl (g.2.2 0, 100, .inl (M.2.2.1 47))) := rfl
theorem wg_48 (g : Gx) (X M : ST) : (ww g X M)[48]? = some (g.2.1 48, .inl (g.2.2 0, 100, .inl (M.2.2.1 48))) := rfl
theorem wg_49 (g : Gx) (X M : ST) : (ww g X M)[49]? = some (g.2.1 49, .inl (g.2.2 0, 100, .inl (M.2.2.1 49))) := rfl
theorem wg_50 (g : Gx) (X M : ST) : (ww g X M)[50]? = some (g.2.1 50, .inl (g.2.2 2, 100, .inl (M.2.2.1 50))) := rfl
theorem wg_51 (g : Gx) (X M : ST) : (ww g X M)[51]? = some (g.2.1 51, .inl (g.2.2 0, 4, .inl (M.2.2.1 51))) := rfl
theorem wg_52 (g : Gx) (X M : ST) : (ww g X M)[52]? = some (g.2.1 52, .inl (g.2.2 0, 4, .inl (M.2.2.1 52))) := rfl
theorem wg_53 (g : Gx) (X M : ST) : (ww g X M)[53]? = some (g.2.1 53, .inl (g.2.2 1, 200, .inr (.inl (M.2.2.2 53)))) := rfl
theorem wg_54 (g : Gx) (X M : ST) : (ww g X M)[54]? = some (g.2.1 54, .inl (g.2.2 0, 1600, .inl (M.2.2.1 54))) := rfl
theorem wg_55 (g : Gx) (X M : ST) : (ww g X M)[55]? = some (g.2.1 55, .inl (g.2.2 0, 12, .inl (M.2.2.1 55))) := rfl
theorem wg_56 (g : Gx) (X M : ST) : (ww g X M)[56]? = some (g.2.1 56, .inl (g.2.2 0, 12, .inl (M.2.2.1 56))) := rfl
theorem wg_57 (g : Gx) (X M : ST) : (ww g X M)[57]? = some (g.2.1 57, .inl (g.2.2 0, 12, .inl (M.2.2.1 57))) := rfl
theorem wg_58 (g : Gx) (X M : ST) : (ww g X M)[58]? = some (g.2.1 58, .inl (g.2.2 2, 12, .inl (M.2.2.1 58))) := rfl
theorem wg_59 (g : Gx) (X M : ST) : (ww g X M)[59]? = some (g.2.1 59, .inl (g.2.2 0, 12, .inl (M.2.2.1 59))) := rfl
theorem wg_60 (g : Gx) (X M : ST) : (ww g X M)[60]? = some (g.2.1 60, .inl (g.2.2 0, 12, .inl (M.2.2.1 60))) := rfl
theorem wg_61 (g : Gx) (X M : ST) : (ww g X M)[61]? = some (g.2.1 61, .inl (g.2.2 0, 400, .inl (M.2.2.1 61))) := rfl
theorem wg_62 (g : Gx) (X M : ST) : (ww g X M)[62]? = some (g.2.1 62, .inl (g.2.2 0, 400, .inl (M.2.2.1 62))) := rfl
theorem wg_63 (g : Gx) (X M : ST) : (ww g X M)[63]? = some (g.2.1 63, .inl (g.2.2 0, 400, .inl (M.2.2.1 63))) := rfl
theorem wg_64 (g : Gx) (X M : ST) : (ww g X M)[64]? = some (g.2.1 64, .inl (g.2.2 0, 12, .inl (M.2.2.1 64))) := rfl
theorem wg_65 (g : Gx) (X M : ST) : (ww g X M)[65]? = some (g.2.1 65, .inl (g.2.2 0, 12, .inl (M.2.2.1 65))) := rfl
theorem wg_66 (g : Gx) (X M : ST) : (ww g X M)[66]? = some (g.2.1 66, .inl (g.2.2 0, 12, .inl (M.2.2.1 66))) := rfl
theorem wg_67 (g : Gx) (X M : ST) : (ww g X M)[67]? = some (g.2.1 67, .inl (g.2.2 0, 144, .inl (M.2.2.1 67))) := rfl
theorem wg_68 (g : Gx) (X M : ST) : (ww g X M)[68]? = some (g.2.1 68, .inl (g.2.2 0, 12, .inl (M.2.2.1 68))) := rfl
theorem wg_69 (g : Gx) (X M : ST) : (ww g X M)[69]? = some (g.2.1 69, .inl (g.2.2 0, 24, .inl (M.2.2.1 69))) := rfl
theorem wg_70 (g : Gx) (X M : ST) : (ww g X M)[70]? = some (g.2.1 70, .inl (g.2.2 2, 144, .inl (M.2.2.1 70))) := rfl
theorem wg_71 (g : Gx) (X M : ST) : (ww g X M)[71]? = some (g.2.1 71, .inl (g.2.2 0, 11520, .inl (M.2.2.1 71))) := rfl
theorem wg_72 (g : Gx) (X M : ST) : (ww g X M)[72]? = some (g.2.1 72, .inl (g.2.2 2, 12, .inl (M.2.2.1 72))) := rfl
theorem wg_73 (g : Gx) (X M : ST) : (ww g X M)[73]? = some (g.2.1 73, .inl (g.2.2 0, 400, .inl (M.2.2.1 73))) := rfl
theorem wg_74 (g : Gx) (X M : ST) : (ww g X M)[74]? = some (g.2.1 74, .inl (g.2.2 0, 400, .inl (M.2.2.1 74))) := rfl
theorem wg_75 (g : Gx) (X M : ST) : (ww g X M)[75]? = some (g.2.1 75, .inl (g.2.2 0, 400, .inl (M.2.2.1 75))) := rfl
theorem wr_ways_lo {k : Nat} (hk : k < 100) (g : Gx) (X : ST) (f : Nat → Int32) : wr_ways g (ks_sA X k f) = wr_ways g X := by
  unfold wr_ways
  refine List.map_congr_left (fun i _ => ?_)
  rw [show (ks_sA X k f).2.2.1 (i + 100) = X.2.2.1 (i + 100) from ks_up_ne _ _ (by omega)]
theorem wr_gaps_lo {k : Nat} (hk : k < 100) (g : Gx) (X : ST) (f : Nat → Int32) : wr_gaps g (ks_sA X k f) = wr_gaps g X := by
  unfold wr_gaps
  refine List.map_congr_left (fun i _ => ?_)
  rw [show (ks_sA X k f).2.2.1 (i + 200) = X.2.2.1 (i + 200) from ks_up_ne _ _ (by omega)]
theorem wr_cells_lo {k : Nat} (hk : k < 100) (g : Gx) (X : ST) (f : Nat → Int64) : wr_cells g (ks_sB X k f) = wr_cells g X := by
  unfold wr_cells
  refine List.map_congr_left (fun i _ => ?_)
  rw [show (ks_sB X k f).2.2.2 (i + 300) = X.2.2.2 (i + 300) from ks_up_ne _ _ (by omega)]
theorem wlen (g : Gx) (X M : ST) : (wobj g X M).length = 76 := rfl
theorem wf_2_5 (g : Gx) (X M : ST) (v : Int64) : (ww g X M).set 2 (g.2.1 2, .inr (7, ([.ref (g.2.1 15), .ref (g.2.1 16), .ref (g.2.1 17), .ref (g.2.1 18), .ref (g.2.1 19), .long (X.2.1 0), .int (X.1 0)] : List Value).set 5 (.long v))) = ww g (ks_sJ X 0 v) M := by
  unfold ww
  rw [List.set_append_left _ _ (by rw [wlen]; decide)]
  rfl
theorem wf_2_6 (g : Gx) (X M : ST) (v : Int32) : (ww g X M).set 2 (g.2.1 2, .inr (7, ([.ref (g.2.1 15), .ref (g.2.1 16), .ref (g.2.1 17), .ref (g.2.1 18), .ref (g.2.1 19), .long (X.2.1 0), .int (X.1 0)] : List Value).set 6 (.int v))) = ww g (ks_sI X 0 v) M := by
  unfold ww
  rw [List.set_append_left _ _ (by rw [wlen]; decide)]
  rfl
theorem wf_3_8 (g : Gx) (X M : ST) (v : Int32) : (ww g X M).set 3 (g.2.1 3, .inr (2, ([.ref (g.2.1 2), .ref (g.2.1 20), .ref (g.2.1 21), .ref (g.2.1 22), .ref (g.2.1 23), .ref (g.2.1 24), .ref (g.2.1 25), .ref (g.2.1 26), .int (X.1 1), .int (X.1 2), .int (X.1 3)] : List Value).set 8 (.int v))) = ww g (ks_sI X 1 v) M := by
  unfold ww
  rw [List.set_append_left _ _ (by rw [wlen]; decide)]
  rfl
theorem wf_3_9 (g : Gx) (X M : ST) (v : Int32) : (ww g X M).set 3 (g.2.1 3, .inr (2, ([.ref (g.2.1 2), .ref (g.2.1 20), .ref (g.2.1 21), .ref (g.2.1 22), .ref (g.2.1 23), .ref (g.2.1 24), .ref (g.2.1 25), .ref (g.2.1 26), .int (X.1 1), .int (X.1 2), .int (X.1 3)] : List Value).set 9 (.int v))) = ww g (ks_sI X 2 v) M := by
  unfold ww
  rw [List.set_append_left _ _ (by rw [wlen]; decide)]
  rfl
theorem wf_3_10 (g : Gx) (X M : ST) (v : Int32) : (ww g X M).set 3 (g.2.1 3, .inr (2, ([.ref (g.2.1 2), .ref (g.2.1 20), .ref (g.2.1 21), .ref (g.2.1 22), .ref (g.2.1 23), .ref (g.2.1 24), .ref (g.2.1 25), .ref (g.2.1 26), .int (X.1 1), .int (X.1 2), .int (X.1 3)] : List Value).set 10 (.int v))) = ww g (ks_sI X 3 v) M := by
  unfold ww
  rw [List.set_append_left _ _ (by rw [wlen]; decide)]
  rfl
theorem wf_4_2 (g : Gx) (X M : ST) (v : Int32) : (ww g X M).set 4 (g.2.1 4, .inr (6, ([.ref (g.2.1 3), .ref (g.2.1 27), .int (X.1 4)] : List Value).set 2 (.int v))) = ww g (ks_sI X 4 v) M := by
  unfold ww
  rw [List.set_append_left _ _ (by rw [wlen]; decide)]
  rfl
theorem wf_5_7 (g : Gx) (X M : ST) (v : Int32) : (ww g X M).set 5 (g.2.1 5, .inr (5, ([.ref (g.2.1 3), .ref (g.2.1 28), .ref (g.2.1 29), .ref (g.2.1 30), .ref (g.2.1 31), .ref (g.2.1 32), .ref (g.2.1 33), .int (X.1 5), .int (X.1 6), .int (X.1 7)] : List Value).set 7 (.int v))) = ww g (ks_sI X 5 v) M := by
  unfold ww
  rw [List.set_append_left _ _ (by rw [wlen]; decide)]
  rfl
theorem wf_5_8 (g : Gx) (X M : ST) (v : Int32) : (ww g X M).set 5 (g.2.1 5, .inr (5, ([.ref (g.2.1 3), .ref (g.2.1 28), .ref (g.2.1 29), .ref (g.2.1 30), .ref (g.2.1 31), .ref (g.2.1 32), .ref (g.2.1 33), .int (X.1 5), .int (X.1 6), .int (X.1 7)] : List Value).set 8 (.int v))) = ww g (ks_sI X 6 v) M := by
  unfold ww
  rw [List.set_append_left _ _ (by rw [wlen]; decide)]
  rfl
theorem wf_5_9 (g : Gx) (X M : ST) (v : Int32) : (ww g X M).set 5 (g.2.1 5, .inr (5, ([.ref (g.2.1 3), .ref (g.2.1 28), .ref (g.2.1 29), .ref (g.2.1 30), .ref (g.2.1 31), .ref (g.2.1 32), .ref (g.2.1 33), .int (X.1 5), .int (X.1 6), .int (X.1 7)] : List Value).set 9 (.int v))) = ww g (ks_sI X 7 v) M := by
  unfold ww
  rw [List.set_append_left _ _ (by rw [wlen]; decide)]
  rfl
theorem wf_6_4 (g : Gx) (X M : ST) (v : Int32) : (ww g X M).set 6 (g.2.1 6, .inr (0, ([.ref (g.2.1 34), .ref (g.2.1 35), .ref (g.2.1 36), .ref (g.2.1 37), .int (X.1 8), .int (X.1 9)] : List Value).set 4 (.int v))) = ww g (ks_sI X 8 v) M := by
  unfold ww
  rw [List.set_append_left _ _ (by rw [wlen]; decide)]
  rfl
theorem wf_6_5 (g : Gx) (X M : ST) (v : Int32) : (ww g X M).set 6 (g.2.1 6, .inr (0, ([.ref (g.2.1 34), .ref (g.2.1 35), .ref (g.2.1 36), .ref (g.2.1 37), .int (X.1 8), .int (X.1 9)] : List Value).set 5 (.int v))) = ww g (ks_sI X 9 v) M := by
  unfold ww
  rw [List.set_append_left _ _ (by rw [wlen]; decide)]
  rfl
theorem wf_7_5 (g : Gx) (X M : ST) (v : Int32) : (ww g X M).set 7 (g.2.1 7, .inr (8, ([.ref (g.2.1 3), .ref (g.2.1 6), .ref (g.2.1 38), .ref (g.2.1 39), .ref (g.2.1 40), .int (X.1 10), .int (X.1 11), .int (X.1 12), .long (X.2.1 1)] : List Value).set 5 (.int v))) = ww g (ks_sI X 10 v) M := by
  unfold ww
  rw [List.set_append_left _ _ (by rw [wlen]; decide)]
  rfl
theorem wf_7_6 (g : Gx) (X M : ST) (v : Int32) : (ww g X M).set 7 (g.2.1 7, .inr (8, ([.ref (g.2.1 3), .ref (g.2.1 6), .ref (g.2.1 38), .ref (g.2.1 39), .ref (g.2.1 40), .int (X.1 10), .int (X.1 11), .int (X.1 12), .long (X.2.1 1)] : List Value).set 6 (.int v))) = ww g (ks_sI X 11 v) M := by
  unfold ww
  rw [List.set_append_left _ _ (by rw [wlen]; decide)]
  rfl
theorem wf_7_7 (g : Gx) (X M : ST) (v : Int32) : (ww g X M).set 7 (g.2.1 7, .inr (8, ([.ref (g.2.1 3), .ref (g.2.1 6), .ref (g.2.1 38), .ref (g.2.1 39), .ref (g.2.1 40), .int (X.1 10), .int (X.1 11), .int (X.1 12), .long (X.2.1 1)] : List Value).set 7 (.int v))) = ww g (ks_sI X 12 v) M := by
  unfold ww
  rw [List.set_append_left _ _ (by rw [wlen]; decide)]
  rfl
theorem wf_7_8 (g : Gx) (X M : ST) (v : Int64) : (ww g X M).set 7 (g.2.1 7, .inr (8, ([.ref (g.2.1 3), .ref (g.2.1 6), .ref (g.2.1 38), .ref (g.2.1 39), .ref (g.2.1 40), .int (X.1 10), .int (X.1 11), .int (X.1 12), .long (X.2.1 1)] : List Value).set 8 (.long v))) = ww g (ks_sJ X 1 v) M := by
  unfold ww
  rw [List.set_append_left _ _ (by rw [wlen]; decide)]
  rfl
theorem wf_9_3 (g : Gx) (X M : ST) (v : Int32) : (ww g X M).set 9 (g.2.1 9, .inr (3, ([.ref (g.2.1 41), .ref (g.2.1 42), .ref (g.2.1 43), .int (X.1 13)] : List Value).set 3 (.int v))) = ww g (ks_sI X 13 v) M := by
  unfold ww
  rw [List.set_append_left _ _ (by rw [wlen]; decide)]
  rfl
theorem wf_10_3 (g : Gx) (X M : ST) (v : Int32) : (ww g X M).set 10 (g.2.1 10, .inr (3, ([.ref (g.2.1 44), .ref (g.2.1 45), .ref (g.2.1 46), .int (X.1 14)] : List Value).set 3 (.int v))) = ww g (ks_sI X 14 v) M := by
  unfold ww
  rw [List.set_append_left _ _ (by rw [wlen]; decide)]
  rfl
theorem wf_11_0 (g : Gx) (X M : ST) (v : Int32) : (ww g X M).set 11 (g.2.1 11, .inr (10, ([.int (M.1 15), .ref (g.2.1 47), .ref (g.2.1 48), .ref (g.2.1 49), .ref (g.2.1 50), .ref (g.2.1 51), .ref (g.2.1 52), .ref (g.2.1 53), .ref (g.2.1 54), .int (M.1 16), .ref (g.2.1 55), .ref (g.2.1 56), .ref (g.2.1 57), .ref (g.2.1 58), .ref (g.2.1 59), .int (M.1 17), .ref (g.2.1 60), .int (M.1 18), .ref (g.2.1 61), .ref (g.2.1 62), .ref (g.2.1 63), .ref (g.2.1 64), .ref (g.2.1 65), .ref (g.2.1 66), .ref (g.2.1 67), .ref (g.2.1 68), .ref (g.2.1 69), .int (M.1 19), .ref (g.2.1 70), .ref (g.2.1 71), .int (M.1 20), .ref (g.2.1 72), .ref (g.2.1 73), .ref (g.2.1 74), .ref (g.2.1 75), .int (M.1 21)] : List Value).set 0 (.int v))) = ww g X (ks_sI M 15 v) := by
  unfold ww
  rw [List.set_append_left _ _ (by rw [wlen]; decide)]
  rfl
theorem wf_11_9 (g : Gx) (X M : ST) (v : Int32) : (ww g X M).set 11 (g.2.1 11, .inr (10, ([.int (M.1 15), .ref (g.2.1 47), .ref (g.2.1 48), .ref (g.2.1 49), .ref (g.2.1 50), .ref (g.2.1 51), .ref (g.2.1 52), .ref (g.2.1 53), .ref (g.2.1 54), .int (M.1 16), .ref (g.2.1 55), .ref (g.2.1 56), .ref (g.2.1 57), .ref (g.2.1 58), .ref (g.2.1 59), .int (M.1 17), .ref (g.2.1 60), .int (M.1 18), .ref (g.2.1 61), .ref (g.2.1 62), .ref (g.2.1 63), .ref (g.2.1 64), .ref (g.2.1 65), .ref (g.2.1 66), .ref (g.2.1 67), .ref (g.2.1 68), .ref (g.2.1 69), .int (M.1 19), .ref (g.2.1 70), .ref (g.2.1 71), .int (M.1 20), .ref (g.2.1 72), .ref (g.2.1 73), .ref (g.2.1 74), .ref (g.2.1 75), .int (M.1 21)] : List Value).set 9 (.int v))) = ww g X (ks_sI M 16 v) := by
  unfold ww
  rw [List.set_append_left _ _ (by rw [wlen]; decide)]
  rfl
theorem wf_11_15 (g : Gx) (X M : ST) (v : Int32) : (ww g X M).set 11 (g.2.1 11, .inr (10, ([.int (M.1 15), .ref (g.2.1 47), .ref (g.2.1 48), .ref (g.2.1 49), .ref (g.2.1 50), .ref (g.2.1 51), .ref (g.2.1 52), .ref (g.2.1 53), .ref (g.2.1 54), .int (M.1 16), .ref (g.2.1 55), .ref (g.2.1 56), .ref (g.2.1 57), .ref (g.2.1 58), .ref (g.2.1 59), .int (M.1 17), .ref (g.2.1 60), .int (M.1 18), .ref (g.2.1 61), .ref (g.2.1 62), .ref (g.2.1 63), .ref (g.2.1 64), .ref (g.2.1 65), .ref (g.2.1 66), .ref (g.2.1 67), .ref (g.2.1 68), .ref (g.2.1 69), .int (M.1 19), .ref (g.2.1 70), .ref (g.2.1 71), .int (M.1 20), .ref (g.2.1 72), .ref (g.2.1 73), .ref (g.2.1 74), .ref (g.2.1 75), .int (M.1 21)] : List Value).set 15 (.int v))) = ww g X (ks_sI M 17 v) := by
  unfold ww
  rw [List.set_append_left _ _ (by rw [wlen]; decide)]
  rfl
theorem wf_11_17 (g : Gx) (X M : ST) (v : Int32) : (ww g X M).set 11 (g.2.1 11, .inr (10, ([.int (M.1 15), .ref (g.2.1 47), .ref (g.2.1 48), .ref (g.2.1 49), .ref (g.2.1 50), .ref (g.2.1 51), .ref (g.2.1 52), .ref (g.2.1 53), .ref (g.2.1 54), .int (M.1 16), .ref (g.2.1 55), .ref (g.2.1 56), .ref (g.2.1 57), .ref (g.2.1 58), .ref (g.2.1 59), .int (M.1 17), .ref (g.2.1 60), .int (M.1 18), .ref (g.2.1 61), .ref (g.2.1 62), .ref (g.2.1 63), .ref (g.2.1 64), .ref (g.2.1 65), .ref (g.2.1 66), .ref (g.2.1 67), .ref (g.2.1 68), .ref (g.2.1 69), .int (M.1 19), .ref (g.2.1 70), .ref (g.2.1 71), .int (M.1 20), .ref (g.2.1 72), .ref (g.2.1 73), .ref (g.2.1 74), .ref (g.2.1 75), .int (M.1 21)] : List Value).set 17 (.int v))) = ww g X (ks_sI M 18 v) := by
  unfold ww
  rw [List.set_append_left _ _ (by rw [wlen]; decide)]
  rfl
theorem wf_11_27 (g : Gx) (X M : ST) (v : Int32) : (ww g X M).set 11 (g.2.1 11, .inr (10, ([.int (M.1 15), .ref (g.2.1 47), .ref (g.2.1 48), .ref (g.2.1 49), .ref (g.2.1 50), .ref (g.2.1 51), .ref (g.2.1 52), .ref (g.2.1 53), .ref (g.2.1 54), .int (M.1 16), .ref (g.2.1 55), .ref (g.2.1 56), .ref (g.2.1 57), .ref (g.2.1 58), .ref (g.2.1 59), .int (M.1 17), .ref (g.2.1 60), .int (M.1 18), .ref (g.2.1 61), .ref (g.2.1 62), .ref (g.2.1 63), .ref (g.2.1 64), .ref (g.2.1 65), .ref (g.2.1 66), .ref (g.2.1 67), .ref (g.2.1 68), .ref (g.2.1 69), .int (M.1 19), .ref (g.2.1 70), .ref (g.2.1 71), .int (M.1 20), .ref (g.2.1 72), .ref (g.2.1 73), .ref (g.2.1 74), .ref (g.2.1 75), .int (M.1 21)] : List Value).set 27 (.int v))) = ww g X (ks_sI M 19 v) := by
  unfold ww
  rw [List.set_append_left _ _ (by rw [wlen]; decide)]
  rfl
theorem wf_11_30 (g : Gx) (X M : ST) (v : Int32) : (ww g X M).set 11 (g.2.1 11, .inr (10, ([.int (M.1 15), .ref (g.2.1 47), .ref (g.2.1 48), .ref (g.2.1 49), .ref (g.2.1 50), .ref (g.2.1 51), .ref (g.2.1 52), .ref (g.2.1 53), .ref (g.2.1 54), .int (M.1 16), .ref (g.2.1 55), .ref (g.2.1 56), .ref (g.2.1 57), .ref (g.2.1 58), .ref (g.2.1 59), .int (M.1 17), .ref (g.2.1 60), .int (M.1 18), .ref (g.2.1 61), .ref (g.2.1 62), .ref (g.2.1 63), .ref (g.2.1 64), .ref (g.2.1 65), .ref (g.2.1 66), .ref (g.2.1 67), .ref (g.2.1 68), .ref (g.2.1 69), .int (M.1 19), .ref (g.2.1 70), .ref (g.2.1 71), .int (M.1 20), .ref (g.2.1 72), .ref (g.2.1 73), .ref (g.2.1 74), .ref (g.2.1 75), .int (M.1 21)] : List Value).set 30 (.int v))) = ww g X (ks_sI M 20 v) := by
  unfold ww
  rw [List.set_append_left _ _ (by rw [wlen]; decide)]
  rfl
theorem wf_11_35 (g : Gx) (X M : ST) (v : Int32) : (ww g X M).set 11 (g.2.1 11, .inr (10, ([.int (M.1 15), .ref (g.2.1 47), .ref (g.2.1 48), .ref (g.2.1 49), .ref (g.2.1 50), .ref (g.2.1 51), .ref (g.2.1 52), .ref (g.2.1 53), .ref (g.2.1 54), .int (M.1 16), .ref (g.2.1 55), .ref (g.2.1 56), .ref (g.2.1 57), .ref (g.2.1 58), .ref (g.2.1 59), .int (M.1 17), .ref (g.2.1 60), .int (M.1 18), .ref (g.2.1 61), .ref (g.2.1 62), .ref (g.2.1 63), .ref (g.2.1 64), .ref (g.2.1 65), .ref (g.2.1 66), .ref (g.2.1 67), .ref (g.2.1 68), .ref (g.2.1 69), .int (M.1 19), .ref (g.2.1 70), .ref (g.2.1 71), .int (M.1 20), .ref (g.2.1 72), .ref (g.2.1 73), .ref (g.2.1 74), .ref (g.2.1 75), .int (M.1 21)] : List Value).set 35 (.int v))) = ww g X (ks_sI M 21 v) := by
  unfold ww
  rw [List.set_append_left _ _ (by rw [wlen]; decide)]
  rfl
theorem ah_13 (g : Gx) : ahI g 13 13 4 (g.2.1 13) := by
  refine ⟨fun X M => rfl, fun X M f => ?_⟩
  unfold ww
  rw [List.set_append_left _ _ (by rw [wlen]; decide), wr_ways_lo (by decide), wr_gaps_lo (by decide)]
  rfl
theorem ah_14 (g : Gx) : ahI g 14 14 4 (g.2.1 14) := by
  refine ⟨fun X M => rfl, fun X M f => ?_⟩
  unfold ww
  rw [List.set_append_left _ _ (by rw [wlen]; decide), wr_ways_lo (by decide), wr_gaps_lo (by decide)]
  rfl
theorem ah_15 (g : Gx) : ahI g 15 15 100 (g.2.1 15) := by
  refine ⟨fun X M => rfl, fun X M f => ?_⟩
  unfold ww
  rw [List.set_append_left _ _ (by rw [wlen]; decide), wr_ways_lo (by decide), wr_gaps_lo (by decide)]
  rfl
theorem ah_16 (g : Gx) : ahI g 16 16 100 (g.2.1 16) := by
  refine ⟨fun X M => rfl, fun X M f => ?_⟩
  unfold ww
  rw [List.set_append_left _ _ (by rw [wlen]; decide), wr_ways_lo (by decide), wr_gaps_lo (by decide)]
  rfl
theorem ah_17 (g : Gx) : ahI g 17 17 100 (g.2.1 17) := by
  refine ⟨fun X M => rfl, fun X M f => ?_⟩
  unfold ww
  rw [List.set_append_left _ _ (by rw [wlen]; decide), wr_ways_lo (by decide), wr_gaps_lo (by decide)]
  rfl
theorem ah_18 (g : Gx) : ahZ g 18 18 100 (g.2.1 18) := by
  refine ⟨fun X M => rfl, fun X M f => ?_⟩
  unfold ww
  rw [List.set_append_left _ _ (by rw [wlen]; decide), wr_ways_lo (by decide), wr_gaps_lo (by decide)]
  rfl
theorem ah_20 (g : Gx) : ahI g 20 20 12 (g.2.1 20) := by
  refine ⟨fun X M => rfl, fun X M f => ?_⟩
  unfold ww
  rw [List.set_append_left _ _ (by rw [wlen]; decide), wr_ways_lo (by decide), wr_gaps_lo (by decide)]
  rfl
theorem ah_21 (g : Gx) : ahI g 21 21 12 (g.2.1 21) := by
  refine ⟨fun X M => rfl, fun X M f => ?_⟩
  unfold ww
  rw [List.set_append_left _ _ (by rw [wlen]; decide), wr_ways_lo (by decide), wr_gaps_lo (by decide)]
  rfl
theorem ah_22 (g : Gx) : ahI g 22 22 12 (g.2.1 22) := by
  refine ⟨fun X M => rfl, fun X M f => ?_⟩
  unfold ww
  rw [List.set_append_left _ _ (by rw [wlen]; decide), wr_ways_lo (by decide), wr_gaps_lo (by decide)]
  rfl
theorem ah_23 (g : Gx) : ahI g 23 23 12 (g.2.1 23) := by
  refine ⟨fun X M => rfl, fun X M f => ?_⟩
  unfold ww
  rw [List.set_append_left _ _ (by rw [wlen]; decide), wr_ways_lo (by decide), wr_gaps_lo (by decide)]
  rfl
theorem ah_24 (g : Gx) : ahI g 24 24 12 (g.2.1 24) := by
  refine ⟨fun X M => rfl, fun X M f => ?_⟩
  unfold ww
  rw [List.set_append_left _ _ (by rw [wlen]; decide), wr_ways_lo (by decide), wr_gaps_lo (by decide)]
  rfl
theorem ah_25 (g : Gx) : ahI g 25 25 12 (g.2.1 25) := by
  refine ⟨fun X M => rfl, fun X M f => ?_⟩
  unfold ww
  rw [List.set_append_left _ _ (by rw [wlen]; decide), wr_ways_lo (by decide), wr_gaps_lo (by decide)]
  rfl
theorem ah_27 (g : Gx) : ahI g 27 27 12 (g.2.1 27) := by
  refine ⟨fun X M => rfl, fun X M f => ?_⟩
  unfold ww
  rw [List.set_append_left _ _ (by rw [wlen]; decide), wr_ways_lo (by decide), wr_gaps_lo (by decide)]
  rfl
theorem ah_28 (g : Gx) : ahI g 28 28 12 (g.2.1 28) := by
  refine ⟨fun X M => rfl, fun X M f => ?_⟩
  unfold ww
  rw [List.set_append_left _ _ (by rw [wlen]; decide), wr_ways_lo (by decide), wr_gaps_lo (by decide)]
  rfl
theorem ah_29 (g : Gx) : ahI g 29 29 12 (g.2.1 29) := by
  refine ⟨fun X M => rfl, fun X M f => ?_⟩
  unfold ww
  rw [List.set_append_left _ _ (by rw [wlen]; decide), wr_ways_lo (by decide), wr_gaps_lo (by decide)]
  rfl
theorem ah_30 (g : Gx) : ahI g 30 30 8 (g.2.1 30) := by
  refine ⟨fun X M => rfl, fun X M f => ?_⟩
  unfold ww
  rw [List.set_append_left _ _ (by rw [wlen]; decide), wr_ways_lo (by decide), wr_gaps_lo (by decide)]
  rfl
theorem ah_31 (g : Gx) : ahI g 31 31 8 (g.2.1 31) := by
  refine ⟨fun X M => rfl, fun X M f => ?_⟩
  unfold ww
  rw [List.set_append_left _ _ (by rw [wlen]; decide), wr_ways_lo (by decide), wr_gaps_lo (by decide)]
  rfl
theorem ah_32 (g : Gx) : ahI g 32 32 8 (g.2.1 32) := by
  refine ⟨fun X M => rfl, fun X M f => ?_⟩
  unfold ww
  rw [List.set_append_left _ _ (by rw [wlen]; decide), wr_ways_lo (by decide), wr_gaps_lo (by decide)]
  rfl
theorem ah_33 (g : Gx) : ahI g 33 33 8 (g.2.1 33) := by
  refine ⟨fun X M => rfl, fun X M f => ?_⟩
  unfold ww
  rw [List.set_append_left _ _ (by rw [wlen]; decide), wr_ways_lo (by decide), wr_gaps_lo (by decide)]
  rfl
theorem ah_34 (g : Gx) : ahI g 34 34 12 (g.2.1 34) := by
  refine ⟨fun X M => rfl, fun X M f => ?_⟩
  unfold ww
  rw [List.set_append_left _ _ (by rw [wlen]; decide), wr_ways_lo (by decide), wr_gaps_lo (by decide)]
  rfl
theorem ah_35 (g : Gx) : ahI g 35 35 12 (g.2.1 35) := by
  refine ⟨fun X M => rfl, fun X M f => ?_⟩
  unfold ww
  rw [List.set_append_left _ _ (by rw [wlen]; decide), wr_ways_lo (by decide), wr_gaps_lo (by decide)]
  rfl
theorem ah_36 (g : Gx) : ahI g 36 36 66 (g.2.1 36) := by
  refine ⟨fun X M => rfl, fun X M f => ?_⟩
  unfold ww
  rw [List.set_append_left _ _ (by rw [wlen]; decide), wr_ways_lo (by decide), wr_gaps_lo (by decide)]
  rfl
theorem ah_37 (g : Gx) : ahZ g 37 37 66 (g.2.1 37) := by
  refine ⟨fun X M => rfl, fun X M f => ?_⟩
  unfold ww
  rw [List.set_append_left _ _ (by rw [wlen]; decide), wr_ways_lo (by decide), wr_gaps_lo (by decide)]
  rfl
theorem ah_38 (g : Gx) : ahJ g 38 38 66 (g.2.1 38) := by
  refine ⟨fun X M => rfl, fun X M f => ?_⟩
  unfold ww
  rw [List.set_append_left _ _ (by rw [wlen]; decide), wr_cells_lo (by decide)]
  rfl
theorem ah_39 (g : Gx) : ahI g 39 39 12 (g.2.1 39) := by
  refine ⟨fun X M => rfl, fun X M f => ?_⟩
  unfold ww
  rw [List.set_append_left _ _ (by rw [wlen]; decide), wr_ways_lo (by decide), wr_gaps_lo (by decide)]
  rfl
theorem ah_40 (g : Gx) : ahI g 40 40 12 (g.2.1 40) := by
  refine ⟨fun X M => rfl, fun X M f => ?_⟩
  unfold ww
  rw [List.set_append_left _ _ (by rw [wlen]; decide), wr_ways_lo (by decide), wr_gaps_lo (by decide)]
  rfl
theorem ah_41 (g : Gx) : ahI g 41 41 400 (g.2.1 41) := by
  refine ⟨fun X M => rfl, fun X M f => ?_⟩
  unfold ww
  rw [List.set_append_left _ _ (by rw [wlen]; decide), wr_ways_lo (by decide), wr_gaps_lo (by decide)]
  rfl
theorem ah_42 (g : Gx) : ahI g 42 42 400 (g.2.1 42) := by
  refine ⟨fun X M => rfl, fun X M f => ?_⟩
  unfold ww
  rw [List.set_append_left _ _ (by rw [wlen]; decide), wr_ways_lo (by decide), wr_gaps_lo (by decide)]
  rfl
theorem ah_43 (g : Gx) : ahI g 43 43 400 (g.2.1 43) := by
  refine ⟨fun X M => rfl, fun X M f => ?_⟩
  unfold ww
  rw [List.set_append_left _ _ (by rw [wlen]; decide), wr_ways_lo (by decide), wr_gaps_lo (by decide)]
  rfl
theorem ah_44 (g : Gx) : ahI g 44 44 400 (g.2.1 44) := by
  refine ⟨fun X M => rfl, fun X M f => ?_⟩
  unfold ww
  rw [List.set_append_left _ _ (by rw [wlen]; decide), wr_ways_lo (by decide), wr_gaps_lo (by decide)]
  rfl
theorem ah_45 (g : Gx) : ahI g 45 45 400 (g.2.1 45) := by
  refine ⟨fun X M => rfl, fun X M f => ?_⟩
  unfold ww
  rw [List.set_append_left _ _ (by rw [wlen]; decide), wr_ways_lo (by decide), wr_gaps_lo (by decide)]
  rfl
theorem ah_46 (g : Gx) : ahI g 46 46 400 (g.2.1 46) := by
  refine ⟨fun X M => rfl, fun X M f => ?_⟩
  unfold ww
  rw [List.set_append_left _ _ (by rw [wlen]; decide), wr_ways_lo (by decide), wr_gaps_lo (by decide)]
  rfl
theorem ah_47 (g : Gx) : mhI g 47 47 100 (g.2.1 47) := by
  refine ⟨fun X M => rfl, fun X M f => ?_⟩
  unfold ww
  rw [List.set_append_left _ _ (by rw [wlen]; decide)]
  rfl
theorem ah_48 (g : Gx) : mhI g 48 48 100 (g.2.1 48) := by
  refine ⟨fun X M => rfl, fun X M f => ?_⟩
  unfold ww
  rw [List.set_append_left _ _ (by rw [wlen]; decide)]
  rfl
theorem ah_49 (g : Gx) : mhI g 49 49 100 (g.2.1 49) := by
  refine ⟨fun X M => rfl, fun X M f => ?_⟩
  unfold ww
  rw [List.set_append_left _ _ (by rw [wlen]; decide)]
  rfl
theorem ah_50 (g : Gx) : mhZ g 50 50 100 (g.2.1 50) := by
  refine ⟨fun X M => rfl, fun X M f => ?_⟩
  unfold ww
  rw [List.set_append_left _ _ (by rw [wlen]; decide)]
  rfl
theorem ah_51 (g : Gx) : mhI g 51 51 4 (g.2.1 51) := by
  refine ⟨fun X M => rfl, fun X M f => ?_⟩
  unfold ww
  rw [List.set_append_left _ _ (by rw [wlen]; decide)]
  rfl
theorem ah_52 (g : Gx) : mhI g 52 52 4 (g.2.1 52) := by
  refine ⟨fun X M => rfl, fun X M f => ?_⟩
  unfold ww
  rw [List.set_append_left _ _ (by rw [wlen]; decide)]
  rfl
theorem ah_53 (g : Gx) : mhJ g 53 53 200 (g.2.1 53) := by
  refine ⟨fun X M => rfl, fun X M f => ?_⟩
  unfold ww
  rw [List.set_append_left _ _ (by rw [wlen]; decide)]
  rfl
theorem ah_54 (g : Gx) : mhI g 54 54 1600 (g.2.1 54) := by
  refine ⟨fun X M => rfl, fun X M f => ?_⟩
  unfold ww
  rw [List.set_append_left _ _ (by rw [wlen]; decide)]
  rfl
theorem ah_55 (g : Gx) : mhI g 55 55 12 (g.2.1 55) := by
  refine ⟨fun X M => rfl, fun X M f => ?_⟩
  unfold ww
  rw [List.set_append_left _ _ (by rw [wlen]; decide)]
  rfl
theorem ah_56 (g : Gx) : mhI g 56 56 12 (g.2.1 56) := by
  refine ⟨fun X M => rfl, fun X M f => ?_⟩
  unfold ww
  rw [List.set_append_left _ _ (by rw [wlen]; decide)]
  rfl
theorem ah_57 (g : Gx) : mhI g 57 57 12 (g.2.1 57) := by
  refine ⟨fun X M => rfl, fun X M f => ?_⟩
  unfold ww
  rw [List.set_append_left _ _ (by rw [wlen]; decide)]
  rfl
theorem ah_58 (g : Gx) : mhZ g 58 58 12 (g.2.1 58) := by
  refine ⟨fun X M => rfl, fun X M f => ?_⟩
  unfold ww
  rw [List.set_append_left _ _ (by rw [wlen]; decide)]
  rfl
theorem ah_59 (g : Gx) : mhI g 59 59 12 (g.2.1 59) := by
  refine ⟨fun X M => rfl, fun X M f => ?_⟩
  unfold ww
  rw [List.set_append_left _ _ (by rw [wlen]; decide)]
  rfl
theorem ah_60 (g : Gx) : mhI g 60 60 12 (g.2.1 60) := by
  refine ⟨fun X M => rfl, fun X M f => ?_⟩
  unfold ww
  rw [List.set_append_left _ _ (by rw [wlen]; decide)]
  rfl
theorem ah_61 (g : Gx) : mhI g 61 61 400 (g.2.1 61) := by
  refine ⟨fun X M => rfl, fun X M f => ?_⟩
  unfold ww
  rw [List.set_append_left _ _ (by rw [wlen]; decide)]
  rfl
theorem ah_62 (g : Gx) : mhI g 62 62 400 (g.2.1 62) := by
  refine ⟨fun X M => rfl, fun X M f => ?_⟩
  unfold ww
  rw [List.set_append_left _ _ (by rw [wlen]; decide)]
  rfl
theorem ah_63 (g : Gx) : mhI g 63 63 400 (g.2.1 63) := by
  refine ⟨fun X M => rfl, fun X M f => ?_⟩
  unfold ww
  rw [List.set_append_left _ _ (by rw [wlen]; decide)]
  rfl
theorem ah_64 (g : Gx) : mhI g 64 64 12 (g.2.1 64) := by
  refine ⟨fun X M => rfl, fun X M f => ?_⟩
  unfold ww
  rw [List.set_append_left _ _ (by rw [wlen]; decide)]
  rfl
theorem ah_65 (g : Gx) : mhI g 65 65 12 (g.2.1 65) := by
  refine ⟨fun X M => rfl, fun X M f => ?_⟩
  unfold ww
  rw [List.set_append_left _ _ (by rw [wlen]; decide)]
  rfl
theorem ah_66 (g : Gx) : mhI g 66 66 12 (g.2.1 66) := by
  refine ⟨fun X M => rfl, fun X M f => ?_⟩
  unfold ww
  rw [List.set_append_left _ _ (by rw [wlen]; decide)]
  rfl
theorem ah_67 (g : Gx) : mhI g 67 67 144 (g.2.1 67) := by
  refine ⟨fun X M => rfl, fun X M f => ?_⟩
  unfold ww
  rw [List.set_append_left _ _ (by rw [wlen]; decide)]
  rfl
theorem ah_68 (g : Gx) : mhI g 68 68 12 (g.2.1 68) := by
  refine ⟨fun X M => rfl, fun X M f => ?_⟩
  unfold ww
  rw [List.set_append_left _ _ (by rw [wlen]; decide)]
  rfl
theorem ah_69 (g : Gx) : mhI g 69 69 24 (g.2.1 69) := by
  refine ⟨fun X M => rfl, fun X M f => ?_⟩
  unfold ww
  rw [List.set_append_left _ _ (by rw [wlen]; decide)]
  rfl
theorem ah_70 (g : Gx) : mhZ g 70 70 144 (g.2.1 70) := by
  refine ⟨fun X M => rfl, fun X M f => ?_⟩
  unfold ww
  rw [List.set_append_left _ _ (by rw [wlen]; decide)]
  rfl
theorem ah_71 (g : Gx) : mhI g 71 71 11520 (g.2.1 71) := by
  refine ⟨fun X M => rfl, fun X M f => ?_⟩
  unfold ww
  rw [List.set_append_left _ _ (by rw [wlen]; decide)]
  rfl
theorem ah_72 (g : Gx) : mhZ g 72 72 12 (g.2.1 72) := by
  refine ⟨fun X M => rfl, fun X M f => ?_⟩
  unfold ww
  rw [List.set_append_left _ _ (by rw [wlen]; decide)]
  rfl
theorem ah_73 (g : Gx) : mhI g 73 73 400 (g.2.1 73) := by
  refine ⟨fun X M => rfl, fun X M f => ?_⟩
  unfold ww
  rw [List.set_append_left _ _ (by rw [wlen]; decide)]
  rfl
theorem ah_74 (g : Gx) : mhI g 74 74 400 (g.2.1 74) := by
  refine ⟨fun X M => rfl, fun X M f => ?_⟩
  unfold ww
  rw [List.set_append_left _ _ (by rw [wlen]; decide)]
  rfl
theorem ah_75 (g : Gx) : mhI g 75 75 400 (g.2.1 75) := by
  refine ⟨fun X M => rfl, fun X M f => ?_⟩
  unfold ww
  rw [List.set_append_left _ _ (by rw [wlen]; decide)]
  rfl
theorem wlr_ways (g : Gx) (X : ST) : (wr_ways g X).length = 40 := by unfold wr_ways; rw [List.length_map, List.length_range]
theorem wgr_ways {i : Nat} (hi : i < 40) (g : Gx) (X : ST) : (wr_ways g X)[i]? = some (g.2.1 (i + 100), .inl (g.2.2 0, 40, .inl (X.2.2.1 (i + 100)))) := by
  unfold wr_ways
  rw [List.getElem?_map, List.getElem?_range hi]
  rfl
theorem wsr_ways {i : Nat} (hi : i < 40) (g : Gx) (X : ST) (f : Nat → Int32) : (wr_ways g X).set i (g.2.1 (i + 100), .inl (g.2.2 0, 40, .inl (f))) = wr_ways g (ks_sA X (i + 100) f) := by
  refine List.ext_getElem? (fun j => ?_)
  by_cases hj : j < 40
  · rw [wgr_ways hj]
    by_cases e : j = i
    · subst e
      rw [List.getElem?_set_self (by rw [wlr_ways]; exact hi)]
      rw [show (ks_sA X (j + 100) f).2.2.1 (j + 100) = f from ks_up_eq _ _ _]
    · rw [List.getElem?_set_ne (fun q => e q.symm), wgr_ways hj]
      rw [show (ks_sA X (i + 100) f).2.2.1 (j + 100) = X.2.2.1 (j + 100) from ks_up_ne _ _ (by omega)]
  · rw [List.getElem?_eq_none (by rw [List.length_set, wlr_ways]; omega), List.getElem?_eq_none (by rw [wlr_ways]; omega)]
theorem wob_ways (g : Gx) (X M : ST) (i : Nat) (f : Nat → Int32) : wobj g (ks_sA X (i + 100) f) M = wobj g X M := by
  have e : ∀ k, k < 100 → (ks_sA X (i + 100) f).2.2.1 k = X.2.2.1 k := fun k hk => ks_up_ne _ _ (by omega)
  unfold wobj
  rw [e 13 (by decide), e 14 (by decide), e 15 (by decide), e 16 (by decide), e 17 (by decide), e 18 (by decide), e 20 (by decide), e 21 (by decide), e 22 (by decide), e 23 (by decide), e 24 (by decide), e 25 (by decide), e 27 (by decide), e 28 (by decide), e 29 (by decide), e 30 (by decide), e 31 (by decide), e 32 (by decide), e 33 (by decide), e 34 (by decide), e 35 (by decide), e 36 (by decide), e 37 (by decide), e 39 (by decide), e 40 (by decide), e 41 (by decide), e 42 (by decide), e 43 (by decide), e 44 (by decide), e 45 (by decide), e 46 (by decide)]
theorem wlr_gaps (g : Gx) (X : ST) : (wr_gaps g X).length = 12 := by unfold wr_gaps; rw [List.length_map, List.length_range]
theorem wgr_gaps {i : Nat} (hi : i < 12) (g : Gx) (X : ST) : (wr_gaps g X)[i]? = some (g.2.1 (i + 200), .inl (g.2.2 0, 12, .inl (X.2.2.1 (i + 200)))) := by
  unfold wr_gaps
  rw [List.getElem?_map, List.getElem?_range hi]
  rfl
theorem wsr_gaps {i : Nat} (hi : i < 12) (g : Gx) (X : ST) (f : Nat → Int32) : (wr_gaps g X).set i (g.2.1 (i + 200), .inl (g.2.2 0, 12, .inl (f))) = wr_gaps g (ks_sA X (i + 200) f) := by
  refine List.ext_getElem? (fun j => ?_)
  by_cases hj : j < 12
  · rw [wgr_gaps hj]
    by_cases e : j = i
    · subst e
      rw [List.getElem?_set_self (by rw [wlr_gaps]; exact hi)]
      rw [show (ks_sA X (j + 200) f).2.2.1 (j + 200) = f from ks_up_eq _ _ _]
    · rw [List.getElem?_set_ne (fun q => e q.symm), wgr_gaps hj]
      rw [show (ks_sA X (i + 200) f).2.2.1 (j + 200) = X.2.2.1 (j + 200) from ks_up_ne _ _ (by omega)]
  · rw [List.getElem?_eq_none (by rw [List.length_set, wlr_gaps]; omega), List.getElem?_eq_none (by rw [wlr_gaps]; omega)]
theorem wob_gaps (g : Gx) (X M : ST) (i : Nat) (f : Nat → Int32) : wobj g (ks_sA X (i + 200) f) M = wobj g X M := by
  have e : ∀ k, k < 100 → (ks_sA X (i + 200) f).2.2.1 k = X.2.2.1 k := fun k hk => ks_up_ne _ _ (by omega)
  unfold wobj
  rw [e 13 (by decide), e 14 (by decide), e 15 (by decide), e 16 (by decide), e 17 (by decide), e 18 (by decide), e 20 (by decide), e 21 (by decide), e 22 (by decide), e 23 (by decide), e 24 (by decide), e 25 (by decide), e 27 (by decide), e 28 (by decide), e 29 (by decide), e 30 (by decide), e 31 (by decide), e 32 (by decide), e 33 (by decide), e 34 (by decide), e 35 (by decide), e 36 (by decide), e 37 (by decide), e 39 (by decide), e 40 (by decide), e 41 (by decide), e 42 (by decide), e 43 (by decide), e 44 (by decide), e 45 (by decide), e 46 (by decide)]
theorem wlr_cells (g : Gx) (X : ST) : (wr_cells g X).length = 4 := by unfold wr_cells; rw [List.length_map, List.length_range]
theorem wgr_cells {i : Nat} (hi : i < 4) (g : Gx) (X : ST) : (wr_cells g X)[i]? = some (g.2.1 (i + 300), .inl (g.2.2 1, 50, .inr (.inl (X.2.2.2 (i + 300))))) := by
  unfold wr_cells
  rw [List.getElem?_map, List.getElem?_range hi]
  rfl
theorem wsr_cells {i : Nat} (hi : i < 4) (g : Gx) (X : ST) (f : Nat → Int64) : (wr_cells g X).set i (g.2.1 (i + 300), .inl (g.2.2 1, 50, .inr (.inl (f)))) = wr_cells g (ks_sB X (i + 300) f) := by
  refine List.ext_getElem? (fun j => ?_)
  by_cases hj : j < 4
  · rw [wgr_cells hj]
    by_cases e : j = i
    · subst e
      rw [List.getElem?_set_self (by rw [wlr_cells]; exact hi)]
      rw [show (ks_sB X (j + 300) f).2.2.2 (j + 300) = f from ks_up_eq _ _ _]
    · rw [List.getElem?_set_ne (fun q => e q.symm), wgr_cells hj]
      rw [show (ks_sB X (i + 300) f).2.2.2 (j + 300) = X.2.2.2 (j + 300) from ks_up_ne _ _ (by omega)]
  · rw [List.getElem?_eq_none (by rw [List.length_set, wlr_cells]; omega), List.getElem?_eq_none (by rw [wlr_cells]; omega)]
theorem wob_cells (g : Gx) (X M : ST) (i : Nat) (f : Nat → Int64) : wobj g (ks_sB X (i + 300) f) M = wobj g X M := by
  have e : ∀ k, k < 100 → (ks_sB X (i + 300) f).2.2.2 k = X.2.2.2 k := fun k hk => ks_up_ne _ _ (by omega)
  unfold wobj
  rw [e 38 (by decide)]
theorem wro_ways_gaps {i : Nat} (hi : i < 40) (g : Gx) (X : ST) (f : Nat → Int32) : wr_gaps g (ks_sA X (i + 100) f) = wr_gaps g X := by
  unfold wr_gaps
  refine List.map_congr_left (fun j hj => ?_)
  have hj := List.mem_range.mp hj
  rw [show (ks_sA X (i + 100) f).2.2.1 (j + 200) = X.2.2.1 (j + 200) from ks_up_ne _ _ (by omega)]
theorem wro_gaps_ways {i : Nat} (hi : i < 12) (g : Gx) (X : ST) (f : Nat → Int32) : wr_ways g (ks_sA X (i + 200) f) = wr_ways g X := by
  unfold wr_ways
  refine List.map_congr_left (fun j hj => ?_)
  have hj := List.mem_range.mp hj
  rw [show (ks_sA X (i + 200) f).2.2.1 (j + 100) = X.2.2.1 (j + 100) from ks_up_ne _ _ (by omega)]
theorem ah_ways (g : Gx) {i : Nat} (hi : i < 40) : ahI g (i + 76) (i + 100) 40 (g.2.1 (i + 100)) := by
  refine ⟨fun X M => ?_, fun X M f => ?_⟩
  · unfold ww
    rw [List.getElem?_append_right (by rw [wlen]; omega), List.getElem?_append_left (by rw [wlen, wlr_ways]; omega), wlen, Nat.add_sub_cancel, wgr_ways hi]
  · unfold ww
    rw [List.set_append_right _ _ (by rw [wlen]; omega), List.set_append_left _ _ (by rw [wlen, wlr_ways]; omega), wlen, Nat.add_sub_cancel, wsr_ways hi, wob_ways, wro_ways_gaps hi]
    rfl
theorem ah_gaps (g : Gx) {i : Nat} (hi : i < 12) : ahI g (i + 116) (i + 200) 12 (g.2.1 (i + 200)) := by
  have e1 : i + 116 - 76 = i + 40 := by omega
  refine ⟨fun X M => ?_, fun X M f => ?_⟩
  · unfold ww
    rw [List.getElem?_append_right (by rw [wlen]; omega), wlen, e1, List.getElem?_append_right (by rw [wlr_ways]; omega), wlr_ways, Nat.add_sub_cancel, List.getElem?_append_left (by rw [wlr_gaps]; exact hi), wgr_gaps hi]
  · unfold ww
    rw [List.set_append_right _ _ (by rw [wlen]; omega), wlen, e1, List.set_append_right _ _ (by rw [wlr_ways]; omega), wlr_ways, Nat.add_sub_cancel, List.set_append_left _ _ (by rw [wlr_gaps]; exact hi), wsr_gaps hi, wob_gaps, wro_gaps_ways hi]
    rfl
theorem ah_cells (g : Gx) {i : Nat} (hi : i < 4) : ahJ g (i + 128) (i + 300) 50 (g.2.1 (i + 300)) := by
  have e1 : i + 128 - 76 = i + 52 := by omega
  have e2 : i + 52 - 40 = i + 12 := by omega
  refine ⟨fun X M => ?_, fun X M f => ?_⟩
  · unfold ww
    rw [List.getElem?_append_right (by rw [wlen]; omega), wlen, e1, List.getElem?_append_right (by rw [wlr_ways]; omega), wlr_ways, e2, List.getElem?_append_right (by rw [wlr_gaps]; omega), wlr_gaps, Nat.add_sub_cancel, wgr_cells hi]
  · unfold ww
    rw [List.set_append_right _ _ (by rw [wlen]; omega), wlen, e1, List.set_append_right _ _ (by rw [wlr_ways]; omega), wlr_ways, e2, List.set_append_right _ _ (by rw [wlr_gaps]; omega), wlr_gaps, Nat.add_sub_cancel, wsr_cells hi, wob_cells]
    rfl
theorem jg_0_0 {idx : Nat} (hκ : CF κ g own cc Ts nL rm) (hin : ∀ w ∈ wsX90, w ∈ Ts) (hf : fl κ own idx "LampRound" "rows" "LLampRound$Rows;") (hd : decode cc pc = .ok (.getfield idx, 3)) (ep : pc + 3 = pc') (h : Jw κ g nL X M lv pc' (.ref (g.2.1 1) :: st)) : Jw κ g nL X M lv pc (.ref (g.2.1 0) :: st) := by
  obtain ⟨p, l, e, R, s, m, args, below, meth, c, cells, slots, Q, A⟩ := κ
  obtain ⟨hx, hb, hml, hown, hts, hK, hN, hD, hAA, rfl, hc9, hs9, hg⟩ := hκ
  subst ep
  intro H locs ls hP hS hl
  rcases hf with hf | ⟨host, hf⟩
  · exact va_get (D := g.1) (C := RX9) (T := TX9) (N := 10) (ci := 9) hx hb hts hin hown hK hP 0 (wg_0 g X M) rfl 0 (by decide) hf (fun _ h9 => h9) rfl hd (h H locs ls hP hS hl)
  · exact va_getN (D := g.1) (C := RX9) (T := TX9) (N := 10) (ci := 9) hx hb hts hin hown hK hP 0 (wg_0 g X M) rfl 0 (by decide) hf (fun _ h9 => h9) rfl hd (h H locs ls hP hS hl)
theorem jg_0_1 {idx : Nat} (hκ : CF κ g own cc Ts nL rm) (hin : ∀ w ∈ wsX90, w ∈ Ts) (hf : fl κ own idx "LampRound" "town" "LLampRound$Town;") (hd : decode cc pc = .ok (.getfield idx, 3)) (ep : pc + 3 = pc') (h : Jw κ g nL X M lv pc' (.ref (g.2.1 2) :: st)) : Jw κ g nL X M lv pc (.ref (g.2.1 0) :: st) := by
  obtain ⟨p, l, e, R, s, m, args, below, meth, c, cells, slots, Q, A⟩ := κ
  obtain ⟨hx, hb, hml, hown, hts, hK, hN, hD, hAA, rfl, hc9, hs9, hg⟩ := hκ
  subst ep
  intro H locs ls hP hS hl
  rcases hf with hf | ⟨host, hf⟩
  · exact va_get (D := g.1) (C := RX9) (T := TX9) (N := 10) (ci := 9) hx hb hts hin hown hK hP 0 (wg_0 g X M) rfl 1 (by decide) hf (fun _ h9 => h9) rfl hd (h H locs ls hP hS hl)
  · exact va_getN (D := g.1) (C := RX9) (T := TX9) (N := 10) (ci := 9) hx hb hts hin hown hK hP 0 (wg_0 g X M) rfl 1 (by decide) hf (fun _ h9 => h9) rfl hd (h H locs ls hP hS hl)
theorem jg_0_2 {idx : Nat} (hκ : CF κ g own cc Ts nL rm) (hin : ∀ w ∈ wsX90, w ∈ Ts) (hf : fl κ own idx "LampRound" "lamps" "LLampRound$Lamps;") (hd : decode cc pc = .ok (.getfield idx, 3)) (ep : pc + 3 = pc') (h : Jw κ g nL X M lv pc' (.ref (g.2.1 3) :: st)) : Jw κ g nL X M lv pc (.ref (g.2.1 0) :: st) := by
  obtain ⟨p, l, e, R, s, m, args, below, meth, c, cells, slots, Q, A⟩ := κ
  obtain ⟨hx, hb, hml, hown, hts, hK, hN, hD, hAA, rfl, hc9, hs9, hg⟩ := hκ
  subst ep
  intro H locs ls hP hS hl
  rcases hf with hf | ⟨host, hf⟩
  · exact va_get (D := g.1) (C := RX9) (T := TX9) (N := 10) (ci := 9) hx hb hts hin hown hK hP 0 (wg_0 g X M) rfl 2 (by decide) hf (fun _ h9 => h9) rfl hd (h H locs ls hP hS hl)
  · exact va_getN (D := g.1) (C := RX9) (T := TX9) (N := 10) (ci := 9) hx hb hts hin hown hK hP 0 (wg_0 g X M) rfl 2 (by decide) hf (fun _ h9 => h9) rfl hd (h H locs ls hP hS hl)
theorem jg_0_3 {idx : Nat} (hκ : CF κ g own cc Ts nL rm) (hin : ∀ w ∈ wsX90, w ∈ Ts) (hf : fl κ own idx "LampRound" "told" "LLampRound$ToldRound;") (hd : decode cc pc = .ok (.getfield idx, 3)) (ep : pc + 3 = pc') (h : Jw κ g nL X M lv pc' (.ref (g.2.1 4) :: st)) : Jw κ g nL X M lv pc (.ref (g.2.1 0) :: st) := by
  obtain ⟨p, l, e, R, s, m, args, below, meth, c, cells, slots, Q, A⟩ := κ
  obtain ⟨hx, hb, hml, hown, hts, hK, hN, hD, hAA, rfl, hc9, hs9, hg⟩ := hκ
  subst ep
  intro H locs ls hP hS hl
  rcases hf with hf | ⟨host, hf⟩
  · exact va_get (D := g.1) (C := RX9) (T := TX9) (N := 10) (ci := 9) hx hb hts hin hown hK hP 0 (wg_0 g X M) rfl 3 (by decide) hf (fun _ h9 => h9) rfl hd (h H locs ls hP hS hl)
  · exact va_getN (D := g.1) (C := RX9) (T := TX9) (N := 10) (ci := 9) hx hb hts hin hown hK hP 0 (wg_0 g X M) rfl 3 (by decide) hf (fun _ h9 => h9) rfl hd (h H locs ls hP hS hl)
theorem jg_0_4 {idx : Nat} (hκ : CF κ g own cc Ts nL rm) (hin : ∀ w ∈ wsX90, w ∈ Ts) (hf : fl κ own idx "LampRound" "search" "LLampRound$Search;") (hd : decode cc pc = .ok (.getfield idx, 3)) (ep : pc + 3 = pc') (h : Jw κ g nL X M lv pc' (.ref (g.2.1 5) :: st)) : Jw κ g nL X M lv pc (.ref (g.2.1 0) :: st) := by
  obtain ⟨p, l, e, R, s, m, args, below, meth, c, cells, slots, Q, A⟩ := κ
  obtain ⟨hx, hb, hml, hown, hts, hK, hN, hD, hAA, rfl, hc9, hs9, hg⟩ := hκ
  subst ep
  intro H locs ls hP hS hl
  rcases hf with hf | ⟨host, hf⟩
  · exact va_get (D := g.1) (C := RX9) (T := TX9) (N := 10) (ci := 9) hx hb hts hin hown hK hP 0 (wg_0 g X M) rfl 4 (by decide) hf (fun _ h9 => h9) rfl hd (h H locs ls hP hS hl)
  · exact va_getN (D := g.1) (C := RX9) (T := TX9) (N := 10) (ci := 9) hx hb hts hin hown hK hP 0 (wg_0 g X M) rfl 4 (by decide) hf (fun _ h9 => h9) rfl hd (h H locs ls hP hS hl)
theorem jg_0_5 {idx : Nat} (hκ : CF κ g own cc Ts nL rm) (hin : ∀ w ∈ wsX90, w ∈ Ts) (hf : fl κ own idx "LampRound" "present" "LLampRound$Case;") (hd : decode cc pc = .ok (.getfield idx, 3)) (ep : pc + 3 = pc') (h : Jw κ g nL X M lv pc' (.ref (g.2.1 6) :: st)) : Jw κ g nL X M lv pc (.ref (g.2.1 0) :: st) := by
  obtain ⟨p, l, e, R, s, m, args, below, meth, c, cells, slots, Q, A⟩ := κ
  obtain ⟨hx, hb, hml, hown, hts, hK, hN, hD, hAA, rfl, hc9, hs9, hg⟩ := hκ
  subst ep
  intro H locs ls hP hS hl
  rcases hf with hf | ⟨host, hf⟩
  · exact va_get (D := g.1) (C := RX9) (T := TX9) (N := 10) (ci := 9) hx hb hts hin hown hK hP 0 (wg_0 g X M) rfl 5 (by decide) hf (fun _ h9 => h9) rfl hd (h H locs ls hP hS hl)
  · exact va_getN (D := g.1) (C := RX9) (T := TX9) (N := 10) (ci := 9) hx hb hts hin hown hK hP 0 (wg_0 g X M) rfl 5 (by decide) hf (fun _ h9 => h9) rfl hd (h H locs ls hP hS hl)
theorem jg_0_6 {idx : Nat} (hκ : CF κ g own cc Ts nL rm) (hin : ∀ w ∈ wsX90, w ∈ Ts) (hf : fl κ own idx "LampRound" "tree" "LLampRound$Tree;") (hd : decode cc pc = .ok (.getfield idx, 3)) (ep : pc + 3 = pc') (h : Jw κ g nL X M lv pc' (.ref (g.2.1 7) :: st)) : Jw κ g nL X M lv pc (.ref (g.2.1 0) :: st) := by
  obtain ⟨p, l, e, R, s, m, args, below, meth, c, cells, slots, Q, A⟩ := κ
  obtain ⟨hx, hb, hml, hown, hts, hK, hN, hD, hAA, rfl, hc9, hs9, hg⟩ := hκ
  subst ep
  intro H locs ls hP hS hl
  rcases hf with hf | ⟨host, hf⟩
  · exact va_get (D := g.1) (C := RX9) (T := TX9) (N := 10) (ci := 9) hx hb hts hin hown hK hP 0 (wg_0 g X M) rfl 6 (by decide) hf (fun _ h9 => h9) rfl hd (h H locs ls hP hS hl)
  · exact va_getN (D := g.1) (C := RX9) (T := TX9) (N := 10) (ci := 9) hx hb hts hin hown hK hP 0 (wg_0 g X M) rfl 6 (by decide) hf (fun _ h9 => h9) rfl hd (h H locs ls hP hS hl)
theorem jg_0_7 {idx : Nat} (hκ : CF κ g own cc Ts nL rm) (hin : ∀ w ∈ wsX90, w ∈ Ts) (hf : fl κ own idx "LampRound" "judge" "LLampRound$Judge;") (hd : decode cc pc = .ok (.getfield idx, 3)) (ep : pc + 3 = pc') (h : Jw κ g nL X M lv pc' (.ref (g.2.1 8) :: st)) : Jw κ g nL X M lv pc (.ref (g.2.1 0) :: st) := by
  obtain ⟨p, l, e, R, s, m, args, below, meth, c, cells, slots, Q, A⟩ := κ
  obtain ⟨hx, hb, hml, hown, hts, hK, hN, hD, hAA, rfl, hc9, hs9, hg⟩ := hκ
  subst ep
  intro H locs ls hP hS hl
  rcases hf with hf | ⟨host, hf⟩
  · exact va_get (D := g.1) (C := RX9) (T := TX9) (N := 10) (ci := 9) hx hb hts hin hown hK hP 0 (wg_0 g X M) rfl 7 (by decide) hf (fun _ h9 => h9) rfl hd (h H locs ls hP hS hl)
  · exact va_getN (D := g.1) (C := RX9) (T := TX9) (N := 10) (ci := 9) hx hb hts hin hown hK hP 0 (wg_0 g X M) rfl 7 (by decide) hf (fun _ h9 => h9) rfl hd (h H locs ls hP hS hl)
theorem jg_0_8 {idx : Nat} (hκ : CF κ g own cc Ts nL rm) (hin : ∀ w ∈ wsX90, w ∈ Ts) (hf : fl κ own idx "LampRound" "proof" "LLampRound$Lines;") (hd : decode cc pc = .ok (.getfield idx, 3)) (ep : pc + 3 = pc') (h : Jw κ g nL X M lv pc' (.ref (g.2.1 9) :: st)) : Jw κ g nL X M lv pc (.ref (g.2.1 0) :: st) := by
  obtain ⟨p, l, e, R, s, m, args, below, meth, c, cells, slots, Q, A⟩ := κ
  obtain ⟨hx, hb, hml, hown, hts, hK, hN, hD, hAA, rfl, hc9, hs9, hg⟩ := hκ
  subst ep
  intro H locs ls hP hS hl
  rcases hf with hf | ⟨host, hf⟩
  · exact va_get (D := g.1) (C := RX9) (T := TX9) (N := 10) (ci := 9) hx hb hts hin hown hK hP 0 (wg_0 g X M) rfl 8 (by decide) hf (fun _ h9 => h9) rfl hd (h H locs ls hP hS hl)
  · exact va_getN (D := g.1) (C := RX9) (T := TX9) (N := 10) (ci := 9) hx hb hts hin hown hK hP 0 (wg_0 g X M) rfl 8 (by decide) hf (fun _ h9 => h9) rfl hd (h H locs ls hP hS hl)
theorem jg_0_9 {idx : Nat} (hκ : CF κ g own cc Ts nL rm) (hin : ∀ w ∈ wsX90, w ∈ Ts) (hf : fl κ own idx "LampRound" "draft" "LLampRound$Lines;") (hd : decode cc pc = .ok (.getfield idx, 3)) (ep : pc + 3 = pc') (h : Jw κ g nL X M lv pc' (.ref (g.2.1 10) :: st)) : Jw κ g nL X M lv pc (.ref (g.2.1 0) :: st) := by
  obtain ⟨p, l, e, R, s, m, args, below, meth, c, cells, slots, Q, A⟩ := κ
  obtain ⟨hx, hb, hml, hown, hts, hK, hN, hD, hAA, rfl, hc9, hs9, hg⟩ := hκ
  subst ep
  intro H locs ls hP hS hl
  rcases hf with hf | ⟨host, hf⟩
  · exact va_get (D := g.1) (C := RX9) (T := TX9) (N := 10) (ci := 9) hx hb hts hin hown hK hP 0 (wg_0 g X M) rfl 9 (by decide) hf (fun _ h9 => h9) rfl hd (h H locs ls hP hS hl)
  · exact va_getN (D := g.1) (C := RX9) (T := TX9) (N := 10) (ci := 9) hx hb hts hin hown hK hP 0 (wg_0 g X M) rfl 9 (by decide) hf (fun _ h9 => h9) rfl hd (h H locs ls hP hS hl)
theorem jg_1_0 {idx : Nat} (hκ : CF κ g own cc Ts nL rm) (hin : ∀ w ∈ wsX40, w ∈ Ts) (hf : fl κ own idx "LampRound$Rows" "cells" "[[J") (hd : decode cc pc = .ok (.getfield idx, 3)) (ep : pc + 3 = pc') (h : Jw κ g nL X M lv pc' (.ref (g.2.1 12) :: st)) : Jw κ g nL X M lv pc (.ref (g.2.1 1) :: st) := by
  obtain ⟨p, l, e, R, s, m, args, below, meth, c, cells, slots, Q, A⟩ := κ
  obtain ⟨hx, hb, hml, hown, hts, hK, hN, hD, hAA, rfl, hc9, hs9, hg⟩ := hκ
  subst ep
  intro H locs ls hP hS hl
  rcases hf with hf | ⟨host, hf⟩
  · exact va_get (D := g.1) (C := RX4) (T := TX4) (N := 3) (ci := 4) hx hb hts hin hown hK hP 1 (wg_1 g X M) rfl 0 (by decide) hf (fun _ h9 => h9) rfl hd (h H locs ls hP hS hl)
  · exact va_getN (D := g.1) (C := RX4) (T := TX4) (N := 3) (ci := 4) hx hb hts hin hown hK hP 1 (wg_1 g X M) rfl 0 (by decide) hf (fun _ h9 => h9) rfl hd (h H locs ls hP hS hl)
theorem jg_1_1 {idx : Nat} (hκ : CF κ g own cc Ts nL rm) (hin : ∀ w ∈ wsX40, w ∈ Ts) (hf : fl κ own idx "LampRound$Rows" "kinds" "[I") (hd : decode cc pc = .ok (.getfield idx, 3)) (ep : pc + 3 = pc') (h : Jw κ g nL X M lv pc' (.ref (g.2.1 13) :: st)) : Jw κ g nL X M lv pc (.ref (g.2.1 1) :: st) := by
  obtain ⟨p, l, e, R, s, m, args, below, meth, c, cells, slots, Q, A⟩ := κ
  obtain ⟨hx, hb, hml, hown, hts, hK, hN, hD, hAA, rfl, hc9, hs9, hg⟩ := hκ
  subst ep
  intro H locs ls hP hS hl
  rcases hf with hf | ⟨host, hf⟩
  · exact va_get (D := g.1) (C := RX4) (T := TX4) (N := 3) (ci := 4) hx hb hts hin hown hK hP 1 (wg_1 g X M) rfl 1 (by decide) hf (fun _ h9 => h9) rfl hd (h H locs ls hP hS hl)
  · exact va_getN (D := g.1) (C := RX4) (T := TX4) (N := 3) (ci := 4) hx hb hts hin hown hK hP 1 (wg_1 g X M) rfl 1 (by decide) hf (fun _ h9 => h9) rfl hd (h H locs ls hP hS hl)
theorem jg_1_2 {idx : Nat} (hκ : CF κ g own cc Ts nL rm) (hin : ∀ w ∈ wsX40, w ∈ Ts) (hf : fl κ own idx "LampRound$Rows" "sizes" "[I") (hd : decode cc pc = .ok (.getfield idx, 3)) (ep : pc + 3 = pc') (h : Jw κ g nL X M lv pc' (.ref (g.2.1 14) :: st)) : Jw κ g nL X M lv pc (.ref (g.2.1 1) :: st) := by
  obtain ⟨p, l, e, R, s, m, args, below, meth, c, cells, slots, Q, A⟩ := κ
  obtain ⟨hx, hb, hml, hown, hts, hK, hN, hD, hAA, rfl, hc9, hs9, hg⟩ := hκ
  subst ep
  intro H locs ls hP hS hl
  rcases hf with hf | ⟨host, hf⟩
  · exact va_get (D := g.1) (C := RX4) (T := TX4) (N := 3) (ci := 4) hx hb hts hin hown hK hP 1 (wg_1 g X M) rfl 2 (by decide) hf (fun _ h9 => h9) rfl hd (h H locs ls hP hS hl)
  · exact va_getN (D := g.1) (C := RX4) (T := TX4) (N := 3) (ci := 4) hx hb hts hin hown hK hP 1 (wg_1 g X M) rfl 2 (by decide) hf (fun _ h9 => h9) rfl hd (h H locs ls hP hS hl)
theorem jg_2_0 {idx : Nat} (hκ : CF κ g own cc Ts nL rm) (hin : ∀ w ∈ wsX70, w ∈ Ts) (hf : fl κ own idx "LampRound$Town" "from" "[I") (hd : decode cc pc = .ok (.getfield idx, 3)) (ep : pc + 3 = pc') (h : Jw κ g nL X M lv pc' (.ref (g.2.1 15) :: st)) : Jw κ g nL X M lv pc (.ref (g.2.1 2) :: st) := by
  obtain ⟨p, l, e, R, s, m, args, below, meth, c, cells, slots, Q, A⟩ := κ
  obtain ⟨hx, hb, hml, hown, hts, hK, hN, hD, hAA, rfl, hc9, hs9, hg⟩ := hκ
  subst ep
  intro H locs ls hP hS hl
  rcases hf with hf | ⟨host, hf⟩
  · exact va_get (D := g.1) (C := RX7) (T := TX7) (N := 7) (ci := 7) hx hb hts hin hown hK hP 2 (wg_2 g X M) rfl 0 (by decide) hf (fun _ h9 => h9) rfl hd (h H locs ls hP hS hl)
  · exact va_getN (D := g.1) (C := RX7) (T := TX7) (N := 7) (ci := 7) hx hb hts hin hown hK hP 2 (wg_2 g X M) rfl 0 (by decide) hf (fun _ h9 => h9) rfl hd (h H locs ls hP hS hl)
theorem jg_2_1 {idx : Nat} (hκ : CF κ g own cc Ts nL rm) (hin : ∀ w ∈ wsX70, w ∈ Ts) (hf : fl κ own idx "LampRound$Town" "to" "[I") (hd : decode cc pc = .ok (.getfield idx, 3)) (ep : pc + 3 = pc') (h : Jw κ g nL X M lv pc' (.ref (g.2.1 16) :: st)) : Jw κ g nL X M lv pc (.ref (g.2.1 2) :: st) := by
  obtain ⟨p, l, e, R, s, m, args, below, meth, c, cells, slots, Q, A⟩ := κ
  obtain ⟨hx, hb, hml, hown, hts, hK, hN, hD, hAA, rfl, hc9, hs9, hg⟩ := hκ
  subst ep
  intro H locs ls hP hS hl
  rcases hf with hf | ⟨host, hf⟩
  · exact va_get (D := g.1) (C := RX7) (T := TX7) (N := 7) (ci := 7) hx hb hts hin hown hK hP 2 (wg_2 g X M) rfl 1 (by decide) hf (fun _ h9 => h9) rfl hd (h H locs ls hP hS hl)
  · exact va_getN (D := g.1) (C := RX7) (T := TX7) (N := 7) (ci := 7) hx hb hts hin hown hK hP 2 (wg_2 g X M) rfl 1 (by decide) hf (fun _ h9 => h9) rfl hd (h H locs ls hP hS hl)
theorem jg_2_2 {idx : Nat} (hκ : CF κ g own cc Ts nL rm) (hin : ∀ w ∈ wsX70, w ∈ Ts) (hf : fl κ own idx "LampRound$Town" "size" "[I") (hd : decode cc pc = .ok (.getfield idx, 3)) (ep : pc + 3 = pc') (h : Jw κ g nL X M lv pc' (.ref (g.2.1 17) :: st)) : Jw κ g nL X M lv pc (.ref (g.2.1 2) :: st) := by
  obtain ⟨p, l, e, R, s, m, args, below, meth, c, cells, slots, Q, A⟩ := κ
  obtain ⟨hx, hb, hml, hown, hts, hK, hN, hD, hAA, rfl, hc9, hs9, hg⟩ := hκ
  subst ep
  intro H locs ls hP hS hl
  rcases hf with hf | ⟨host, hf⟩
  · exact va_get (D := g.1) (C := RX7) (T := TX7) (N := 7) (ci := 7) hx hb hts hin hown hK hP 2 (wg_2 g X M) rfl 2 (by decide) hf (fun _ h9 => h9) rfl hd (h H locs ls hP hS hl)
  · exact va_getN (D := g.1) (C := RX7) (T := TX7) (N := 7) (ci := 7) hx hb hts hin hown hK hP 2 (wg_2 g X M) rfl 2 (by decide) hf (fun _ h9 => h9) rfl hd (h H locs ls hP hS hl)
theorem jg_2_3 {idx : Nat} (hκ : CF κ g own cc Ts nL rm) (hin : ∀ w ∈ wsX70, w ∈ Ts) (hf : fl κ own idx "LampRound$Town" "isOpen" "[Z") (hd : decode cc pc = .ok (.getfield idx, 3)) (ep : pc + 3 = pc') (h : Jw κ g nL X M lv pc' (.ref (g.2.1 18) :: st)) : Jw κ g nL X M lv pc (.ref (g.2.1 2) :: st) := by
  obtain ⟨p, l, e, R, s, m, args, below, meth, c, cells, slots, Q, A⟩ := κ
  obtain ⟨hx, hb, hml, hown, hts, hK, hN, hD, hAA, rfl, hc9, hs9, hg⟩ := hκ
  subst ep
  intro H locs ls hP hS hl
  rcases hf with hf | ⟨host, hf⟩
  · exact va_get (D := g.1) (C := RX7) (T := TX7) (N := 7) (ci := 7) hx hb hts hin hown hK hP 2 (wg_2 g X M) rfl 3 (by decide) hf (fun _ h9 => h9) rfl hd (h H locs ls hP hS hl)
  · exact va_getN (D := g.1) (C := RX7) (T := TX7) (N := 7) (ci := 7) hx hb hts hin hown hK hP 2 (wg_2 g X M) rfl 3 (by decide) hf (fun _ h9 => h9) rfl hd (h H locs ls hP hS hl)
theorem jg_2_4 {idx : Nat} (hκ : CF κ g own cc Ts nL rm) (hin : ∀ w ∈ wsX70, w ∈ Ts) (hf : fl κ own idx "LampRound$Town" "ways" "[[I") (hd : decode cc pc = .ok (.getfield idx, 3)) (ep : pc + 3 = pc') (h : Jw κ g nL X M lv pc' (.ref (g.2.1 19) :: st)) : Jw κ g nL X M lv pc (.ref (g.2.1 2) :: st) := by
  obtain ⟨p, l, e, R, s, m, args, below, meth, c, cells, slots, Q, A⟩ := κ
  obtain ⟨hx, hb, hml, hown, hts, hK, hN, hD, hAA, rfl, hc9, hs9, hg⟩ := hκ
  subst ep
  intro H locs ls hP hS hl
  rcases hf with hf | ⟨host, hf⟩
  · exact va_get (D := g.1) (C := RX7) (T := TX7) (N := 7) (ci := 7) hx hb hts hin hown hK hP 2 (wg_2 g X M) rfl 4 (by decide) hf (fun _ h9 => h9) rfl hd (h H locs ls hP hS hl)
  · exact va_getN (D := g.1) (C := RX7) (T := TX7) (N := 7) (ci := 7) hx hb hts hin hown hK hP 2 (wg_2 g X M) rfl 4 (by decide) hf (fun _ h9 => h9) rfl hd (h H locs ls hP hS hl)
theorem jg_2_5 {idx : Nat} (hκ : CF κ g own cc Ts nL rm) (hin : ∀ w ∈ wsX70, w ∈ Ts) (hf : fl κ own idx "LampRound$Town" "reckoned" "J") (hd : decode cc pc = .ok (.getfield idx, 3)) (ep : pc + 3 = pc') (h : Jw κ g nL X M lv pc' (.long (X.2.1 0) :: st)) : Jw κ g nL X M lv pc (.ref (g.2.1 2) :: st) := by
  obtain ⟨p, l, e, R, s, m, args, below, meth, c, cells, slots, Q, A⟩ := κ
  obtain ⟨hx, hb, hml, hown, hts, hK, hN, hD, hAA, rfl, hc9, hs9, hg⟩ := hκ
  subst ep
  intro H locs ls hP hS hl
  rcases hf with hf | ⟨host, hf⟩
  · exact va_get (D := g.1) (C := RX7) (T := TX7) (N := 7) (ci := 7) hx hb hts hin hown hK hP 2 (wg_2 g X M) rfl 5 (by decide) hf (fun _ h9 => h9) rfl hd (h H locs ls hP hS hl)
  · exact va_getN (D := g.1) (C := RX7) (T := TX7) (N := 7) (ci := 7) hx hb hts hin hown hK hP 2 (wg_2 g X M) rfl 5 (by decide) hf (fun _ h9 => h9) rfl hd (h H locs ls hP hS hl)
theorem jp_2_5 {idx : Nat} {v : Int64} (hκ : CF κ g own cc Ts nL rm) (hin : ∀ w ∈ wsX70, w ∈ Ts) (hf : fl κ own idx "LampRound$Town" "reckoned" "J") (hd : decode cc pc = .ok (.putfield idx, 3)) (ep : pc + 3 = pc') (h : Jw κ g nL (ks_sJ X 0 v) M lv pc' st) : Jw κ g nL X M lv pc (.long v :: .ref (g.2.1 2) :: st) := by
  obtain ⟨p, l, e, R, s, m, args, below, meth, c, cells, slots, Q, A⟩ := κ
  obtain ⟨hx, hb, hml, hown, hts, hK, hN, hD, hAA, rfl, hc9, hs9, hg⟩ := hκ
  subst ep
  intro H locs ls hP hS hl
  rcases hf with hf | ⟨host, hf⟩
  · exact va_put (D := g.1) (C := RX7) (T := TX7) (N := 7) (ci := 7) (ty := .long) hx hb hts hin tyX7 tyX7_ok nmX7 hown hK hP (hD X M) hS 2 (wg_2 g X M) rfl 5 (by decide) hf (fun _ h9 => h9) rfl (by decide +kernel) rfl rfl (Nat.le_of_ble_eq_true rfl) hd (fun H1 locs1 hP1 _ hS1 => h H1 locs1 ls (by rw [← wf_2_5]; exact hP1) hS1 hl)
  · exact va_putN (D := g.1) (C := RX7) (T := TX7) (N := 7) (ci := 7) (ty := .long) hx hb hts hin tyX7 tyX7_ok nmX7 hown hK hP (hD X M) hS 2 (wg_2 g X M) rfl 5 (by decide) hf (fun _ h9 => h9) rfl (by decide +kernel) rfl rfl (Nat.le_of_ble_eq_true rfl) hd (fun H1 locs1 hP1 _ hS1 => h H1 locs1 ls (by rw [← wf_2_5]; exact hP1) hS1 hl)
theorem jg_2_6 {idx : Nat} (hκ : CF κ g own cc Ts nL rm) (hin : ∀ w ∈ wsX70, w ∈ Ts) (hf : fl κ own idx "LampRound$Town" "count" "I") (hd : decode cc pc = .ok (.getfield idx, 3)) (ep : pc + 3 = pc') (h : Jw κ g nL X M lv pc' (.int (X.1 0) :: st)) : Jw κ g nL X M lv pc (.ref (g.2.1 2) :: st) := by
  obtain ⟨p, l, e, R, s, m, args, below, meth, c, cells, slots, Q, A⟩ := κ
  obtain ⟨hx, hb, hml, hown, hts, hK, hN, hD, hAA, rfl, hc9, hs9, hg⟩ := hκ
  subst ep
  intro H locs ls hP hS hl
  rcases hf with hf | ⟨host, hf⟩
  · exact va_get (D := g.1) (C := RX7) (T := TX7) (N := 7) (ci := 7) hx hb hts hin hown hK hP 2 (wg_2 g X M) rfl 6 (by decide) hf (fun _ h9 => h9) rfl hd (h H locs ls hP hS hl)
  · exact va_getN (D := g.1) (C := RX7) (T := TX7) (N := 7) (ci := 7) hx hb hts hin hown hK hP 2 (wg_2 g X M) rfl 6 (by decide) hf (fun _ h9 => h9) rfl hd (h H locs ls hP hS hl)
theorem jp_2_6 {idx : Nat} {v : Int32} (hκ : CF κ g own cc Ts nL rm) (hin : ∀ w ∈ wsX70, w ∈ Ts) (hf : fl κ own idx "LampRound$Town" "count" "I") (hd : decode cc pc = .ok (.putfield idx, 3)) (ep : pc + 3 = pc') (h : Jw κ g nL (ks_sI X 0 v) M lv pc' st) : Jw κ g nL X M lv pc (.int v :: .ref (g.2.1 2) :: st) := by
  obtain ⟨p, l, e, R, s, m, args, below, meth, c, cells, slots, Q, A⟩ := κ
  obtain ⟨hx, hb, hml, hown, hts, hK, hN, hD, hAA, rfl, hc9, hs9, hg⟩ := hκ
  subst ep
  intro H locs ls hP hS hl
  rcases hf with hf | ⟨host, hf⟩
  · exact va_put (D := g.1) (C := RX7) (T := TX7) (N := 7) (ci := 7) (ty := .int) hx hb hts hin tyX7 tyX7_ok nmX7 hown hK hP (hD X M) hS 2 (wg_2 g X M) rfl 6 (by decide) hf (fun _ h9 => h9) rfl (by decide +kernel) rfl rfl (Nat.le_of_ble_eq_true rfl) hd (fun H1 locs1 hP1 _ hS1 => h H1 locs1 ls (by rw [← wf_2_6]; exact hP1) hS1 hl)
  · exact va_putN (D := g.1) (C := RX7) (T := TX7) (N := 7) (ci := 7) (ty := .int) hx hb hts hin tyX7 tyX7_ok nmX7 hown hK hP (hD X M) hS 2 (wg_2 g X M) rfl 6 (by decide) hf (fun _ h9 => h9) rfl (by decide +kernel) rfl rfl (Nat.le_of_ble_eq_true rfl) hd (fun H1 locs1 hP1 _ hS1 => h H1 locs1 ls (by rw [← wf_2_6]; exact hP1) hS1 hl)
theorem jg_3_0 {idx : Nat} (hκ : CF κ g own cc Ts nL rm) (hin : ∀ w ∈ wsX20, w ∈ Ts) (hf : fl κ own idx "LampRound$Lamps" "town" "LLampRound$Town;") (hd : decode cc pc = .ok (.getfield idx, 3)) (ep : pc + 3 = pc') (h : Jw κ g nL X M lv pc' (.ref (g.2.1 2) :: st)) : Jw κ g nL X M lv pc (.ref (g.2.1 3) :: st) := by
  obtain ⟨p, l, e, R, s, m, args, below, meth, c, cells, slots, Q, A⟩ := κ
  obtain ⟨hx, hb, hml, hown, hts, hK, hN, hD, hAA, rfl, hc9, hs9, hg⟩ := hκ
  subst ep
  intro H locs ls hP hS hl
  rcases hf with hf | ⟨host, hf⟩
  · exact va_get (D := g.1) (C := RX2) (T := TX2) (N := 11) (ci := 2) hx hb hts hin hown hK hP 3 (wg_3 g X M) rfl 0 (by decide) hf (fun _ h9 => h9) rfl hd (h H locs ls hP hS hl)
  · exact va_getN (D := g.1) (C := RX2) (T := TX2) (N := 11) (ci := 2) hx hb hts hin hown hK hP 3 (wg_3 g X M) rfl 0 (by decide) hf (fun _ h9 => h9) rfl hd (h H locs ls hP hS hl)
theorem jg_3_1 {idx : Nat} (hκ : CF κ g own cc Ts nL rm) (hin : ∀ w ∈ wsX20, w ∈ Ts) (hf : fl κ own idx "LampRound$Lamps" "crossings" "[I") (hd : decode cc pc = .ok (.getfield idx, 3)) (ep : pc + 3 = pc') (h : Jw κ g nL X M lv pc' (.ref (g.2.1 20) :: st)) : Jw κ g nL X M lv pc (.ref (g.2.1 3) :: st) := by
  obtain ⟨p, l, e, R, s, m, args, below, meth, c, cells, slots, Q, A⟩ := κ
  obtain ⟨hx, hb, hml, hown, hts, hK, hN, hD, hAA, rfl, hc9, hs9, hg⟩ := hκ
  subst ep
  intro H locs ls hP hS hl
  rcases hf with hf | ⟨host, hf⟩
  · exact va_get (D := g.1) (C := RX2) (T := TX2) (N := 11) (ci := 2) hx hb hts hin hown hK hP 3 (wg_3 g X M) rfl 1 (by decide) hf (fun _ h9 => h9) rfl hd (h H locs ls hP hS hl)
  · exact va_getN (D := g.1) (C := RX2) (T := TX2) (N := 11) (ci := 2) hx hb hts hin hown hK hP 3 (wg_3 g X M) rfl 1 (by decide) hf (fun _ h9 => h9) rfl hd (h H locs ls hP hS hl)
theorem jg_3_2 {idx : Nat} (hκ : CF κ g own cc Ts nL rm) (hin : ∀ w ∈ wsX20, w ∈ Ts) (hf : fl κ own idx "LampRound$Lamps" "kinds" "[I") (hd : decode cc pc = .ok (.getfield idx, 3)) (ep : pc + 3 = pc') (h : Jw κ g nL X M lv pc' (.ref (g.2.1 21) :: st)) : Jw κ g nL X M lv pc (.ref (g.2.1 3) :: st) := by
  obtain ⟨p, l, e, R, s, m, args, below, meth, c, cells, slots, Q, A⟩ := κ
  obtain ⟨hx, hb, hml, hown, hts, hK, hN, hD, hAA, rfl, hc9, hs9, hg⟩ := hκ
  subst ep
  intro H locs ls hP hS hl
  rcases hf with hf | ⟨host, hf⟩
  · exact va_get (D := g.1) (C := RX2) (T := TX2) (N := 11) (ci := 2) hx hb hts hin hown hK hP 3 (wg_3 g X M) rfl 2 (by decide) hf (fun _ h9 => h9) rfl hd (h H locs ls hP hS hl)
  · exact va_getN (D := g.1) (C := RX2) (T := TX2) (N := 11) (ci := 2) hx hb hts hin hown hK hP 3 (wg_3 g X M) rfl 2 (by decide) hf (fun _ h9 => h9) rfl hd (h H locs ls hP hS hl)
theorem jg_3_3 {idx : Nat} (hκ : CF κ g own cc Ts nL rm) (hin : ∀ w ∈ wsX20, w ∈ Ts) (hf : fl κ own idx "LampRound$Lamps" "others" "[I") (hd : decode cc pc = .ok (.getfield idx, 3)) (ep : pc + 3 = pc') (h : Jw κ g nL X M lv pc' (.ref (g.2.1 22) :: st)) : Jw κ g nL X M lv pc (.ref (g.2.1 3) :: st) := by
  obtain ⟨p, l, e, R, s, m, args, below, meth, c, cells, slots, Q, A⟩ := κ
  obtain ⟨hx, hb, hml, hown, hts, hK, hN, hD, hAA, rfl, hc9, hs9, hg⟩ := hκ
  subst ep
  intro H locs ls hP hS hl
  rcases hf with hf | ⟨host, hf⟩
  · exact va_get (D := g.1) (C := RX2) (T := TX2) (N := 11) (ci := 2) hx hb hts hin hown hK hP 3 (wg_3 g X M) rfl 3 (by decide) hf (fun _ h9 => h9) rfl hd (h H locs ls hP hS hl)
  · exact va_getN (D := g.1) (C := RX2) (T := TX2) (N := 11) (ci := 2) hx hb hts hin hown hK hP 3 (wg_3 g X M) rfl 3 (by decide) hf (fun _ h9 => h9) rfl hd (h H locs ls hP hS hl)
theorem jg_3_4 {idx : Nat} (hκ : CF κ g own cc Ts nL rm) (hin : ∀ w ∈ wsX20, w ∈ Ts) (hf : fl κ own idx "LampRound$Lamps" "prices" "[I") (hd : decode cc pc = .ok (.getfield idx, 3)) (ep : pc + 3 = pc') (h : Jw κ g nL X M lv pc' (.ref (g.2.1 23) :: st)) : Jw κ g nL X M lv pc (.ref (g.2.1 3) :: st) := by
  obtain ⟨p, l, e, R, s, m, args, below, meth, c, cells, slots, Q, A⟩ := κ
  obtain ⟨hx, hb, hml, hown, hts, hK, hN, hD, hAA, rfl, hc9, hs9, hg⟩ := hκ
  subst ep
  intro H locs ls hP hS hl
  rcases hf with hf | ⟨host, hf⟩
  · exact va_get (D := g.1) (C := RX2) (T := TX2) (N := 11) (ci := 2) hx hb hts hin hown hK hP 3 (wg_3 g X M) rfl 4 (by decide) hf (fun _ h9 => h9) rfl hd (h H locs ls hP hS hl)
  · exact va_getN (D := g.1) (C := RX2) (T := TX2) (N := 11) (ci := 2) hx hb hts hin hown hK hP 3 (wg_3 g X M) rfl 4 (by decide) hf (fun _ h9 => h9) rfl hd (h H locs ls hP hS hl)
theorem jg_3_5 {idx : Nat} (hκ : CF κ g own cc Ts nL rm) (hin : ∀ w ∈ wsX20, w ∈ Ts) (hf : fl κ own idx "LampRound$Lamps" "twins" "[I") (hd : decode cc pc = .ok (.getfield idx, 3)) (ep : pc + 3 = pc') (h : Jw κ g nL X M lv pc' (.ref (g.2.1 24) :: st)) : Jw κ g nL X M lv pc (.ref (g.2.1 3) :: st) := by
  obtain ⟨p, l, e, R, s, m, args, below, meth, c, cells, slots, Q, A⟩ := κ
  obtain ⟨hx, hb, hml, hown, hts, hK, hN, hD, hAA, rfl, hc9, hs9, hg⟩ := hκ
  subst ep
  intro H locs ls hP hS hl
  rcases hf with hf | ⟨host, hf⟩
  · exact va_get (D := g.1) (C := RX2) (T := TX2) (N := 11) (ci := 2) hx hb hts hin hown hK hP 3 (wg_3 g X M) rfl 5 (by decide) hf (fun _ h9 => h9) rfl hd (h H locs ls hP hS hl)
  · exact va_getN (D := g.1) (C := RX2) (T := TX2) (N := 11) (ci := 2) hx hb hts hin hown hK hP 3 (wg_3 g X M) rfl 5 (by decide) hf (fun _ h9 => h9) rfl hd (h H locs ls hP hS hl)
theorem jg_3_6 {idx : Nat} (hκ : CF κ g own cc Ts nL rm) (hin : ∀ w ∈ wsX20, w ∈ Ts) (hf : fl κ own idx "LampRound$Lamps" "needs" "[I") (hd : decode cc pc = .ok (.getfield idx, 3)) (ep : pc + 3 = pc') (h : Jw κ g nL X M lv pc' (.ref (g.2.1 25) :: st)) : Jw κ g nL X M lv pc (.ref (g.2.1 3) :: st) := by
  obtain ⟨p, l, e, R, s, m, args, below, meth, c, cells, slots, Q, A⟩ := κ
  obtain ⟨hx, hb, hml, hown, hts, hK, hN, hD, hAA, rfl, hc9, hs9, hg⟩ := hκ
  subst ep
  intro H locs ls hP hS hl
  rcases hf with hf | ⟨host, hf⟩
  · exact va_get (D := g.1) (C := RX2) (T := TX2) (N := 11) (ci := 2) hx hb hts hin hown hK hP 3 (wg_3 g X M) rfl 6 (by decide) hf (fun _ h9 => h9) rfl hd (h H locs ls hP hS hl)
  · exact va_getN (D := g.1) (C := RX2) (T := TX2) (N := 11) (ci := 2) hx hb hts hin hown hK hP 3 (wg_3 g X M) rfl 6 (by decide) hf (fun _ h9 => h9) rfl hd (h H locs ls hP hS hl)
theorem jg_3_7 {idx : Nat} (hκ : CF κ g own cc Ts nL rm) (hin : ∀ w ∈ wsX20, w ∈ Ts) (hf : fl κ own idx "LampRound$Lamps" "gaps" "[[I") (hd : decode cc pc = .ok (.getfield idx, 3)) (ep : pc + 3 = pc') (h : Jw κ g nL X M lv pc' (.ref (g.2.1 26) :: st)) : Jw κ g nL X M lv pc (.ref (g.2.1 3) :: st) := by
  obtain ⟨p, l, e, R, s, m, args, below, meth, c, cells, slots, Q, A⟩ := κ
  obtain ⟨hx, hb, hml, hown, hts, hK, hN, hD, hAA, rfl, hc9, hs9, hg⟩ := hκ
  subst ep
  intro H locs ls hP hS hl
  rcases hf with hf | ⟨host, hf⟩
  · exact va_get (D := g.1) (C := RX2) (T := TX2) (N := 11) (ci := 2) hx hb hts hin hown hK hP 3 (wg_3 g X M) rfl 7 (by decide) hf (fun _ h9 => h9) rfl hd (h H locs ls hP hS hl)
  · exact va_getN (D := g.1) (C := RX2) (T := TX2) (N := 11) (ci := 2) hx hb hts hin hown hK hP 3 (wg_3 g X M) rfl 7 (by decide) hf (fun _ h9 => h9) rfl hd (h H locs ls hP hS hl)
theorem jg_3_8 {idx : Nat} (hκ : CF κ g own cc Ts nL rm) (hin : ∀ w ∈ wsX20, w ∈ Ts) (hf : fl κ own idx "LampRound$Lamps" "live" "I") (hd : decode cc pc = .ok (.getfield idx, 3)) (ep : pc + 3 = pc') (h : Jw κ g nL X M lv pc' (.int (X.1 1) :: st)) : Jw κ g nL X M lv pc (.ref (g.2.1 3) :: st) := by
  obtain ⟨p, l, e, R, s, m, args, below, meth, c, cells, slots, Q, A⟩ := κ
  obtain ⟨hx, hb, hml, hown, hts, hK, hN, hD, hAA, rfl, hc9, hs9, hg⟩ := hκ
  subst ep
  intro H locs ls hP hS hl
  rcases hf with hf | ⟨host, hf⟩
  · exact va_get (D := g.1) (C := RX2) (T := TX2) (N := 11) (ci := 2) hx hb hts hin hown hK hP 3 (wg_3 g X M) rfl 8 (by decide) hf (fun _ h9 => h9) rfl hd (h H locs ls hP hS hl)
  · exact va_getN (D := g.1) (C := RX2) (T := TX2) (N := 11) (ci := 2) hx hb hts hin hown hK hP 3 (wg_3 g X M) rfl 8 (by decide) hf (fun _ h9 => h9) rfl hd (h H locs ls hP hS hl)
theorem jp_3_8 {idx : Nat} {v : Int32} (hκ : CF κ g own cc Ts nL rm) (hin : ∀ w ∈ wsX20, w ∈ Ts) (hf : fl κ own idx "LampRound$Lamps" "live" "I") (hd : decode cc pc = .ok (.putfield idx, 3)) (ep : pc + 3 = pc') (h : Jw κ g nL (ks_sI X 1 v) M lv pc' st) : Jw κ g nL X M lv pc (.int v :: .ref (g.2.1 3) :: st) := by
  obtain ⟨p, l, e, R, s, m, args, below, meth, c, cells, slots, Q, A⟩ := κ
  obtain ⟨hx, hb, hml, hown, hts, hK, hN, hD, hAA, rfl, hc9, hs9, hg⟩ := hκ
  subst ep
  intro H locs ls hP hS hl
  rcases hf with hf | ⟨host, hf⟩
  · exact va_put (D := g.1) (C := RX2) (T := TX2) (N := 11) (ci := 2) (ty := .int) hx hb hts hin tyX2 tyX2_ok nmX2 hown hK hP (hD X M) hS 3 (wg_3 g X M) rfl 8 (by decide) hf (fun _ h9 => h9) rfl (by decide +kernel) rfl rfl (Nat.le_of_ble_eq_true rfl) hd (fun H1 locs1 hP1 _ hS1 => h H1 locs1 ls (by rw [← wf_3_8]; exact hP1) hS1 hl)
  · exact va_putN (D := g.1) (C := RX2) (T := TX2) (N := 11) (ci := 2) (ty := .int) hx hb hts hin tyX2 tyX2_ok nmX2 hown hK hP (hD X M) hS 3 (wg_3 g X M) rfl 8 (by decide) hf (fun _ h9 => h9) rfl (by decide +kernel) rfl rfl (Nat.le_of_ble_eq_true rfl) hd (fun H1 locs1 hP1 _ hS1 => h H1 locs1 ls (by rw [← wf_3_8]; exact hP1) hS1 hl)
theorem jg_3_9 {idx : Nat} (hκ : CF κ g own cc Ts nL rm) (hin : ∀ w ∈ wsX20, w ∈ Ts) (hf : fl κ own idx "LampRound$Lamps" "count" "I") (hd : decode cc pc = .ok (.getfield idx, 3)) (ep : pc + 3 = pc') (h : Jw κ g nL X M lv pc' (.int (X.1 2) :: st)) : Jw κ g nL X M lv pc (.ref (g.2.1 3) :: st) := by
  obtain ⟨p, l, e, R, s, m, args, below, meth, c, cells, slots, Q, A⟩ := κ
  obtain ⟨hx, hb, hml, hown, hts, hK, hN, hD, hAA, rfl, hc9, hs9, hg⟩ := hκ
  subst ep
  intro H locs ls hP hS hl
  rcases hf with hf | ⟨host, hf⟩
  · exact va_get (D := g.1) (C := RX2) (T := TX2) (N := 11) (ci := 2) hx hb hts hin hown hK hP 3 (wg_3 g X M) rfl 9 (by decide) hf (fun _ h9 => h9) rfl hd (h H locs ls hP hS hl)
  · exact va_getN (D := g.1) (C := RX2) (T := TX2) (N := 11) (ci := 2) hx hb hts hin hown hK hP 3 (wg_3 g X M) rfl 9 (by decide) hf (fun _ h9 => h9) rfl hd (h H locs ls hP hS hl)
theorem jp_3_9 {idx : Nat} {v : Int32} (hκ : CF κ g own cc Ts nL rm) (hin : ∀ w ∈ wsX20, w ∈ Ts) (hf : fl κ own idx "LampRound$Lamps" "count" "I") (hd : decode cc pc = .ok (.putfield idx, 3)) (ep : pc + 3 = pc') (h : Jw κ g nL (ks_sI X 2 v) M lv pc' st) : Jw κ g nL X M lv pc (.int v :: .ref (g.2.1 3) :: st) := by
  obtain ⟨p, l, e, R, s, m, args, below, meth, c, cells, slots, Q, A⟩ := κ
  obtain ⟨hx, hb, hml, hown, hts, hK, hN, hD, hAA, rfl, hc9, hs9, hg⟩ := hκ
  subst ep
  intro H locs ls hP hS hl
  rcases hf with hf | ⟨host, hf⟩
  · exact va_put (D := g.1) (C := RX2) (T := TX2) (N := 11) (ci := 2) (ty := .int) hx hb hts hin tyX2 tyX2_ok nmX2 hown hK hP (hD X M) hS 3 (wg_3 g X M) rfl 9 (by decide) hf (fun _ h9 => h9) rfl (by decide +kernel) rfl rfl (Nat.le_of_ble_eq_true rfl) hd (fun H1 locs1 hP1 _ hS1 => h H1 locs1 ls (by rw [← wf_3_9]; exact hP1) hS1 hl)
  · exact va_putN (D := g.1) (C := RX2) (T := TX2) (N := 11) (ci := 2) (ty := .int) hx hb hts hin tyX2 tyX2_ok nmX2 hown hK hP (hD X M) hS 3 (wg_3 g X M) rfl 9 (by decide) hf (fun _ h9 => h9) rfl (by decide +kernel) rfl rfl (Nat.le_of_ble_eq_true rfl) hd (fun H1 locs1 hP1 _ hS1 => h H1 locs1 ls (by rw [← wf_3_9]; exact hP1) hS1 hl)
theorem jg_3_10 {idx : Nat} (hκ : CF κ g own cc Ts nL rm) (hin : ∀ w ∈ wsX20, w ∈ Ts) (hf : fl κ own idx "LampRound$Lamps" "surveyed" "Z") (hd : decode cc pc = .ok (.getfield idx, 3)) (ep : pc + 3 = pc') (h : Jw κ g nL X M lv pc' (.int (X.1 3) :: st)) : Jw κ g nL X M lv pc (.ref (g.2.1 3) :: st) := by
  obtain ⟨p, l, e, R, s, m, args, below, meth, c, cells, slots, Q, A⟩ := κ
  obtain ⟨hx, hb, hml, hown, hts, hK, hN, hD, hAA, rfl, hc9, hs9, hg⟩ := hκ
  subst ep
  intro H locs ls hP hS hl
  rcases hf with hf | ⟨host, hf⟩
  · exact va_get (D := g.1) (C := RX2) (T := TX2) (N := 11) (ci := 2) hx hb hts hin hown hK hP 3 (wg_3 g X M) rfl 10 (by decide) hf (fun _ h9 => h9) rfl hd (h H locs ls hP hS hl)
  · exact va_getN (D := g.1) (C := RX2) (T := TX2) (N := 11) (ci := 2) hx hb hts hin hown hK hP 3 (wg_3 g X M) rfl 10 (by decide) hf (fun _ h9 => h9) rfl hd (h H locs ls hP hS hl)
theorem jp_3_10 {idx : Nat} {v : Int32} (hκ : CF κ g own cc Ts nL rm) (hin : ∀ w ∈ wsX20, w ∈ Ts) (hf : fl κ own idx "LampRound$Lamps" "surveyed" "Z") (hz : bz v) (hd : decode cc pc = .ok (.putfield idx, 3)) (ep : pc + 3 = pc') (h : Jw κ g nL (ks_sI X 3 v) M lv pc' st) : Jw κ g nL X M lv pc (.int v :: .ref (g.2.1 3) :: st) := by
  obtain ⟨p, l, e, R, s, m, args, below, meth, c, cells, slots, Q, A⟩ := κ
  obtain ⟨hx, hb, hml, hown, hts, hK, hN, hD, hAA, rfl, hc9, hs9, hg⟩ := hκ
  subst ep
  intro H locs ls hP hS hl
  rcases hf with hf | ⟨host, hf⟩
  · exact va_put (D := g.1) (C := RX2) (T := TX2) (N := 11) (ci := 2) (ty := .boolean) hx hb hts hin tyX2 tyX2_ok nmX2 hown hK hP (hD X M) hS 3 (wg_3 g X M) rfl 10 (by decide) hf (fun _ h9 => h9) rfl (by decide +kernel) hz.nar hz.fit (Nat.le_of_ble_eq_true rfl) hd (fun H1 locs1 hP1 _ hS1 => h H1 locs1 ls (by rw [← wf_3_10]; exact hP1) hS1 hl)
  · exact va_putN (D := g.1) (C := RX2) (T := TX2) (N := 11) (ci := 2) (ty := .boolean) hx hb hts hin tyX2 tyX2_ok nmX2 hown hK hP (hD X M) hS 3 (wg_3 g X M) rfl 10 (by decide) hf (fun _ h9 => h9) rfl (by decide +kernel) hz.nar hz.fit (Nat.le_of_ble_eq_true rfl) hd (fun H1 locs1 hP1 _ hS1 => h H1 locs1 ls (by rw [← wf_3_10]; exact hP1) hS1 hl)
theorem jg_4_0 {idx : Nat} (hκ : CF κ g own cc Ts nL rm) (hin : ∀ w ∈ wsX60, w ∈ Ts) (hf : fl κ own idx "LampRound$ToldRound" "lamps" "LLampRound$Lamps;") (hd : decode cc pc = .ok (.getfield idx, 3)) (ep : pc + 3 = pc') (h : Jw κ g nL X M lv pc' (.ref (g.2.1 3) :: st)) : Jw κ g nL X M lv pc (.ref (g.2.1 4) :: st) := by
  obtain ⟨p, l, e, R, s, m, args, below, meth, c, cells, slots, Q, A⟩ := κ
  obtain ⟨hx, hb, hml, hown, hts, hK, hN, hD, hAA, rfl, hc9, hs9, hg⟩ := hκ
  subst ep
  intro H locs ls hP hS hl
  rcases hf with hf | ⟨host, hf⟩
  · exact va_get (D := g.1) (C := RX6) (T := TX6) (N := 3) (ci := 6) hx hb hts hin hown hK hP 4 (wg_4 g X M) rfl 0 (by decide) hf (fun _ h9 => h9) rfl hd (h H locs ls hP hS hl)
  · exact va_getN (D := g.1) (C := RX6) (T := TX6) (N := 3) (ci := 6) hx hb hts hin hown hK hP 4 (wg_4 g X M) rfl 0 (by decide) hf (fun _ h9 => h9) rfl hd (h H locs ls hP hS hl)
theorem jg_4_1 {idx : Nat} (hκ : CF κ g own cc Ts nL rm) (hin : ∀ w ∈ wsX60, w ∈ Ts) (hf : fl κ own idx "LampRound$ToldRound" "order" "[I") (hd : decode cc pc = .ok (.getfield idx, 3)) (ep : pc + 3 = pc') (h : Jw κ g nL X M lv pc' (.ref (g.2.1 27) :: st)) : Jw κ g nL X M lv pc (.ref (g.2.1 4) :: st) := by
  obtain ⟨p, l, e, R, s, m, args, below, meth, c, cells, slots, Q, A⟩ := κ
  obtain ⟨hx, hb, hml, hown, hts, hK, hN, hD, hAA, rfl, hc9, hs9, hg⟩ := hκ
  subst ep
  intro H locs ls hP hS hl
  rcases hf with hf | ⟨host, hf⟩
  · exact va_get (D := g.1) (C := RX6) (T := TX6) (N := 3) (ci := 6) hx hb hts hin hown hK hP 4 (wg_4 g X M) rfl 1 (by decide) hf (fun _ h9 => h9) rfl hd (h H locs ls hP hS hl)
  · exact va_getN (D := g.1) (C := RX6) (T := TX6) (N := 3) (ci := 6) hx hb hts hin hown hK hP 4 (wg_4 g X M) rfl 1 (by decide) hf (fun _ h9 => h9) rfl hd (h H locs ls hP hS hl)
theorem jg_4_2 {idx : Nat} (hκ : CF κ g own cc Ts nL rm) (hin : ∀ w ∈ wsX60, w ∈ Ts) (hf : fl κ own idx "LampRound$ToldRound" "count" "I") (hd : decode cc pc = .ok (.getfield idx, 3)) (ep : pc + 3 = pc') (h : Jw κ g nL X M lv pc' (.int (X.1 4) :: st)) : Jw κ g nL X M lv pc (.ref (g.2.1 4) :: st) := by
  obtain ⟨p, l, e, R, s, m, args, below, meth, c, cells, slots, Q, A⟩ := κ
  obtain ⟨hx, hb, hml, hown, hts, hK, hN, hD, hAA, rfl, hc9, hs9, hg⟩ := hκ
  subst ep
  intro H locs ls hP hS hl
  rcases hf with hf | ⟨host, hf⟩
  · exact va_get (D := g.1) (C := RX6) (T := TX6) (N := 3) (ci := 6) hx hb hts hin hown hK hP 4 (wg_4 g X M) rfl 2 (by decide) hf (fun _ h9 => h9) rfl hd (h H locs ls hP hS hl)
  · exact va_getN (D := g.1) (C := RX6) (T := TX6) (N := 3) (ci := 6) hx hb hts hin hown hK hP 4 (wg_4 g X M) rfl 2 (by decide) hf (fun _ h9 => h9) rfl hd (h H locs ls hP hS hl)
theorem jp_4_2 {idx : Nat} {v : Int32} (hκ : CF κ g own cc Ts nL rm) (hin : ∀ w ∈ wsX60, w ∈ Ts) (hf : fl κ own idx "LampRound$ToldRound" "count" "I") (hd : decode cc pc = .ok (.putfield idx, 3)) (ep : pc + 3 = pc') (h : Jw κ g nL (ks_sI X 4 v) M lv pc' st) : Jw κ g nL X M lv pc (.int v :: .ref (g.2.1 4) :: st) := by
  obtain ⟨p, l, e, R, s, m, args, below, meth, c, cells, slots, Q, A⟩ := κ
  obtain ⟨hx, hb, hml, hown, hts, hK, hN, hD, hAA, rfl, hc9, hs9, hg⟩ := hκ
  subst ep
  intro H locs ls hP hS hl
  rcases hf with hf | ⟨host, hf⟩
  · exact va_put (D := g.1) (C := RX6) (T := TX6) (N := 3) (ci := 6) (ty := .int) hx hb hts hin tyX6 tyX6_ok nmX6 hown hK hP (hD X M) hS 4 (wg_4 g X M) rfl 2 (by decide) hf (fun _ h9 => h9) rfl (by decide +kernel) rfl rfl (Nat.le_of_ble_eq_true rfl) hd (fun H1 locs1 hP1 _ hS1 => h H1 locs1 ls (by rw [← wf_4_2]; exact hP1) hS1 hl)
  · exact va_putN (D := g.1) (C := RX6) (T := TX6) (N := 3) (ci := 6) (ty := .int) hx hb hts hin tyX6 tyX6_ok nmX6 hown hK hP (hD X M) hS 4 (wg_4 g X M) rfl 2 (by decide) hf (fun _ h9 => h9) rfl (by decide +kernel) rfl rfl (Nat.le_of_ble_eq_true rfl) hd (fun H1 locs1 hP1 _ hS1 => h H1 locs1 ls (by rw [← wf_4_2]; exact hP1) hS1 hl)
theorem jg_5_0 {idx : Nat} (hκ : CF κ g own cc Ts nL rm) (hin : ∀ w ∈ wsX50, w ∈ Ts) (hf : fl κ own idx "LampRound$Search" "lamps" "LLampRound$Lamps;") (hd : decode cc pc = .ok (.getfield idx, 3)) (ep : pc + 3 = pc') (h : Jw κ g nL X M lv pc' (.ref (g.2.1 3) :: st)) : Jw κ g nL X M lv pc (.ref (g.2.1 5) :: st) := by
  obtain ⟨p, l, e, R, s, m, args, below, meth, c, cells, slots, Q, A⟩ := κ
  obtain ⟨hx, hb, hml, hown, hts, hK, hN, hD, hAA, rfl, hc9, hs9, hg⟩ := hκ
  subst ep
  intro H locs ls hP hS hl
  rcases hf with hf | ⟨host, hf⟩
  · exact va_get (D := g.1) (C := RX5) (T := TX5) (N := 10) (ci := 5) hx hb hts hin hown hK hP 5 (wg_5 g X M) rfl 0 (by decide) hf (fun _ h9 => h9) rfl hd (h H locs ls hP hS hl)
  · exact va_getN (D := g.1) (C := RX5) (T := TX5) (N := 10) (ci := 5) hx hb hts hin hown hK hP 5 (wg_5 g X M) rfl 0 (by decide) hf (fun _ h9 => h9) rfl hd (h H locs ls hP hS hl)
theorem jg_5_1 {idx : Nat} (hκ : CF κ g own cc Ts nL rm) (hin : ∀ w ∈ wsX50, w ∈ Ts) (hf : fl κ own idx "LampRound$Search" "musts" "[I") (hd : decode cc pc = .ok (.getfield idx, 3)) (ep : pc + 3 = pc') (h : Jw κ g nL X M lv pc' (.ref (g.2.1 28) :: st)) : Jw κ g nL X M lv pc (.ref (g.2.1 5) :: st) := by
  obtain ⟨p, l, e, R, s, m, args, below, meth, c, cells, slots, Q, A⟩ := κ
  obtain ⟨hx, hb, hml, hown, hts, hK, hN, hD, hAA, rfl, hc9, hs9, hg⟩ := hκ
  subst ep
  intro H locs ls hP hS hl
  rcases hf with hf | ⟨host, hf⟩
  · exact va_get (D := g.1) (C := RX5) (T := TX5) (N := 10) (ci := 5) hx hb hts hin hown hK hP 5 (wg_5 g X M) rfl 1 (by decide) hf (fun _ h9 => h9) rfl hd (h H locs ls hP hS hl)
  · exact va_getN (D := g.1) (C := RX5) (T := TX5) (N := 10) (ci := 5) hx hb hts hin hown hK hP 5 (wg_5 g X M) rfl 1 (by decide) hf (fun _ h9 => h9) rfl hd (h H locs ls hP hS hl)
theorem jg_5_2 {idx : Nat} (hκ : CF κ g own cc Ts nL rm) (hin : ∀ w ∈ wsX50, w ∈ Ts) (hf : fl κ own idx "LampRound$Search" "bans" "[I") (hd : decode cc pc = .ok (.getfield idx, 3)) (ep : pc + 3 = pc') (h : Jw κ g nL X M lv pc' (.ref (g.2.1 29) :: st)) : Jw κ g nL X M lv pc (.ref (g.2.1 5) :: st) := by
  obtain ⟨p, l, e, R, s, m, args, below, meth, c, cells, slots, Q, A⟩ := κ
  obtain ⟨hx, hb, hml, hown, hts, hK, hN, hD, hAA, rfl, hc9, hs9, hg⟩ := hκ
  subst ep
  intro H locs ls hP hS hl
  rcases hf with hf | ⟨host, hf⟩
  · exact va_get (D := g.1) (C := RX5) (T := TX5) (N := 10) (ci := 5) hx hb hts hin hown hK hP 5 (wg_5 g X M) rfl 2 (by decide) hf (fun _ h9 => h9) rfl hd (h H locs ls hP hS hl)
  · exact va_getN (D := g.1) (C := RX5) (T := TX5) (N := 10) (ci := 5) hx hb hts hin hown hK hP 5 (wg_5 g X M) rfl 2 (by decide) hf (fun _ h9 => h9) rfl hd (h H locs ls hP hS hl)
theorem jg_5_3 {idx : Nat} (hκ : CF κ g own cc Ts nL rm) (hin : ∀ w ∈ wsX50, w ∈ Ts) (hf : fl κ own idx "LampRound$Search" "live" "[I") (hd : decode cc pc = .ok (.getfield idx, 3)) (ep : pc + 3 = pc') (h : Jw κ g nL X M lv pc' (.ref (g.2.1 30) :: st)) : Jw κ g nL X M lv pc (.ref (g.2.1 5) :: st) := by
  obtain ⟨p, l, e, R, s, m, args, below, meth, c, cells, slots, Q, A⟩ := κ
  obtain ⟨hx, hb, hml, hown, hts, hK, hN, hD, hAA, rfl, hc9, hs9, hg⟩ := hκ
  subst ep
  intro H locs ls hP hS hl
  rcases hf with hf | ⟨host, hf⟩
  · exact va_get (D := g.1) (C := RX5) (T := TX5) (N := 10) (ci := 5) hx hb hts hin hown hK hP 5 (wg_5 g X M) rfl 3 (by decide) hf (fun _ h9 => h9) rfl hd (h H locs ls hP hS hl)
  · exact va_getN (D := g.1) (C := RX5) (T := TX5) (N := 10) (ci := 5) hx hb hts hin hown hK hP 5 (wg_5 g X M) rfl 3 (by decide) hf (fun _ h9 => h9) rfl hd (h H locs ls hP hS hl)
theorem jg_5_4 {idx : Nat} (hκ : CF κ g own cc Ts nL rm) (hin : ∀ w ∈ wsX50, w ∈ Ts) (hf : fl κ own idx "LampRound$Search" "order" "[I") (hd : decode cc pc = .ok (.getfield idx, 3)) (ep : pc + 3 = pc') (h : Jw κ g nL X M lv pc' (.ref (g.2.1 31) :: st)) : Jw κ g nL X M lv pc (.ref (g.2.1 5) :: st) := by
  obtain ⟨p, l, e, R, s, m, args, below, meth, c, cells, slots, Q, A⟩ := κ
  obtain ⟨hx, hb, hml, hown, hts, hK, hN, hD, hAA, rfl, hc9, hs9, hg⟩ := hκ
  subst ep
  intro H locs ls hP hS hl
  rcases hf with hf | ⟨host, hf⟩
  · exact va_get (D := g.1) (C := RX5) (T := TX5) (N := 10) (ci := 5) hx hb hts hin hown hK hP 5 (wg_5 g X M) rfl 4 (by decide) hf (fun _ h9 => h9) rfl hd (h H locs ls hP hS hl)
  · exact va_getN (D := g.1) (C := RX5) (T := TX5) (N := 10) (ci := 5) hx hb hts hin hown hK hP 5 (wg_5 g X M) rfl 4 (by decide) hf (fun _ h9 => h9) rfl hd (h H locs ls hP hS hl)
theorem jg_5_5 {idx : Nat} (hκ : CF κ g own cc Ts nL rm) (hin : ∀ w ∈ wsX50, w ∈ Ts) (hf : fl κ own idx "LampRound$Search" "best" "[I") (hd : decode cc pc = .ok (.getfield idx, 3)) (ep : pc + 3 = pc') (h : Jw κ g nL X M lv pc' (.ref (g.2.1 32) :: st)) : Jw κ g nL X M lv pc (.ref (g.2.1 5) :: st) := by
  obtain ⟨p, l, e, R, s, m, args, below, meth, c, cells, slots, Q, A⟩ := κ
  obtain ⟨hx, hb, hml, hown, hts, hK, hN, hD, hAA, rfl, hc9, hs9, hg⟩ := hκ
  subst ep
  intro H locs ls hP hS hl
  rcases hf with hf | ⟨host, hf⟩
  · exact va_get (D := g.1) (C := RX5) (T := TX5) (N := 10) (ci := 5) hx hb hts hin hown hK hP 5 (wg_5 g X M) rfl 5 (by decide) hf (fun _ h9 => h9) rfl hd (h H locs ls hP hS hl)
  · exact va_getN (D := g.1) (C := RX5) (T := TX5) (N := 10) (ci := 5) hx hb hts hin hown hK hP 5 (wg_5 g X M) rfl 5 (by decide) hf (fun _ h9 => h9) rfl hd (h H locs ls hP hS hl)
theorem jg_5_6 {idx : Nat} (hκ : CF κ g own cc Ts nL rm) (hin : ∀ w ∈ wsX50, w ∈ Ts) (hf : fl κ own idx "LampRound$Search" "shunned" "[I") (hd : decode cc pc = .ok (.getfield idx, 3)) (ep : pc + 3 = pc') (h : Jw κ g nL X M lv pc' (.ref (g.2.1 33) :: st)) : Jw κ g nL X M lv pc (.ref (g.2.1 5) :: st) := by
  obtain ⟨p, l, e, R, s, m, args, below, meth, c, cells, slots, Q, A⟩ := κ
  obtain ⟨hx, hb, hml, hown, hts, hK, hN, hD, hAA, rfl, hc9, hs9, hg⟩ := hκ
  subst ep
  intro H locs ls hP hS hl
  rcases hf with hf | ⟨host, hf⟩
  · exact va_get (D := g.1) (C := RX5) (T := TX5) (N := 10) (ci := 5) hx hb hts hin hown hK hP 5 (wg_5 g X M) rfl 6 (by decide) hf (fun _ h9 => h9) rfl hd (h H locs ls hP hS hl)
  · exact va_getN (D := g.1) (C := RX5) (T := TX5) (N := 10) (ci := 5) hx hb hts hin hown hK hP 5 (wg_5 g X M) rfl 6 (by decide) hf (fun _ h9 => h9) rfl hd (h H locs ls hP hS hl)
theorem jg_5_7 {idx : Nat} (hκ : CF κ g own cc Ts nL rm) (hin : ∀ w ∈ wsX50, w ∈ Ts) (hf : fl κ own idx "LampRound$Search" "shuns" "Z") (hd : decode cc pc = .ok (.getfield idx, 3)) (ep : pc + 3 = pc') (h : Jw κ g nL X M lv pc' (.int (X.1 5) :: st)) : Jw κ g nL X M lv pc (.ref (g.2.1 5) :: st) := by
  obtain ⟨p, l, e, R, s, m, args, below, meth, c, cells, slots, Q, A⟩ := κ
  obtain ⟨hx, hb, hml, hown, hts, hK, hN, hD, hAA, rfl, hc9, hs9, hg⟩ := hκ
  subst ep
  intro H locs ls hP hS hl
  rcases hf with hf | ⟨host, hf⟩
  · exact va_get (D := g.1) (C := RX5) (T := TX5) (N := 10) (ci := 5) hx hb hts hin hown hK hP 5 (wg_5 g X M) rfl 7 (by decide) hf (fun _ h9 => h9) rfl hd (h H locs ls hP hS hl)
  · exact va_getN (D := g.1) (C := RX5) (T := TX5) (N := 10) (ci := 5) hx hb hts hin hown hK hP 5 (wg_5 g X M) rfl 7 (by decide) hf (fun _ h9 => h9) rfl hd (h H locs ls hP hS hl)
theorem jp_5_7 {idx : Nat} {v : Int32} (hκ : CF κ g own cc Ts nL rm) (hin : ∀ w ∈ wsX50, w ∈ Ts) (hf : fl κ own idx "LampRound$Search" "shuns" "Z") (hz : bz v) (hd : decode cc pc = .ok (.putfield idx, 3)) (ep : pc + 3 = pc') (h : Jw κ g nL (ks_sI X 5 v) M lv pc' st) : Jw κ g nL X M lv pc (.int v :: .ref (g.2.1 5) :: st) := by
  obtain ⟨p, l, e, R, s, m, args, below, meth, c, cells, slots, Q, A⟩ := κ
  obtain ⟨hx, hb, hml, hown, hts, hK, hN, hD, hAA, rfl, hc9, hs9, hg⟩ := hκ
  subst ep
  intro H locs ls hP hS hl
  rcases hf with hf | ⟨host, hf⟩
  · exact va_put (D := g.1) (C := RX5) (T := TX5) (N := 10) (ci := 5) (ty := .boolean) hx hb hts hin tyX5 tyX5_ok nmX5 hown hK hP (hD X M) hS 5 (wg_5 g X M) rfl 7 (by decide) hf (fun _ h9 => h9) rfl (by decide +kernel) hz.nar hz.fit (Nat.le_of_ble_eq_true rfl) hd (fun H1 locs1 hP1 _ hS1 => h H1 locs1 ls (by rw [← wf_5_7]; exact hP1) hS1 hl)
  · exact va_putN (D := g.1) (C := RX5) (T := TX5) (N := 10) (ci := 5) (ty := .boolean) hx hb hts hin tyX5 tyX5_ok nmX5 hown hK hP (hD X M) hS 5 (wg_5 g X M) rfl 7 (by decide) hf (fun _ h9 => h9) rfl (by decide +kernel) hz.nar hz.fit (Nat.le_of_ble_eq_true rfl) hd (fun H1 locs1 hP1 _ hS1 => h H1 locs1 ls (by rw [← wf_5_7]; exact hP1) hS1 hl)
theorem jg_5_8 {idx : Nat} (hκ : CF κ g own cc Ts nL rm) (hin : ∀ w ∈ wsX50, w ∈ Ts) (hf : fl κ own idx "LampRound$Search" "size" "I") (hd : decode cc pc = .ok (.getfield idx, 3)) (ep : pc + 3 = pc') (h : Jw κ g nL X M lv pc' (.int (X.1 6) :: st)) : Jw κ g nL X M lv pc (.ref (g.2.1 5) :: st) := by
  obtain ⟨p, l, e, R, s, m, args, below, meth, c, cells, slots, Q, A⟩ := κ
  obtain ⟨hx, hb, hml, hown, hts, hK, hN, hD, hAA, rfl, hc9, hs9, hg⟩ := hκ
  subst ep
  intro H locs ls hP hS hl
  rcases hf with hf | ⟨host, hf⟩
  · exact va_get (D := g.1) (C := RX5) (T := TX5) (N := 10) (ci := 5) hx hb hts hin hown hK hP 5 (wg_5 g X M) rfl 8 (by decide) hf (fun _ h9 => h9) rfl hd (h H locs ls hP hS hl)
  · exact va_getN (D := g.1) (C := RX5) (T := TX5) (N := 10) (ci := 5) hx hb hts hin hown hK hP 5 (wg_5 g X M) rfl 8 (by decide) hf (fun _ h9 => h9) rfl hd (h H locs ls hP hS hl)
theorem jp_5_8 {idx : Nat} {v : Int32} (hκ : CF κ g own cc Ts nL rm) (hin : ∀ w ∈ wsX50, w ∈ Ts) (hf : fl κ own idx "LampRound$Search" "size" "I") (hd : decode cc pc = .ok (.putfield idx, 3)) (ep : pc + 3 = pc') (h : Jw κ g nL (ks_sI X 6 v) M lv pc' st) : Jw κ g nL X M lv pc (.int v :: .ref (g.2.1 5) :: st) := by
  obtain ⟨p, l, e, R, s, m, args, below, meth, c, cells, slots, Q, A⟩ := κ
  obtain ⟨hx, hb, hml, hown, hts, hK, hN, hD, hAA, rfl, hc9, hs9, hg⟩ := hκ
  subst ep
  intro H locs ls hP hS hl
  rcases hf with hf | ⟨host, hf⟩
  · exact va_put (D := g.1) (C := RX5) (T := TX5) (N := 10) (ci := 5) (ty := .int) hx hb hts hin tyX5 tyX5_ok nmX5 hown hK hP (hD X M) hS 5 (wg_5 g X M) rfl 8 (by decide) hf (fun _ h9 => h9) rfl (by decide +kernel) rfl rfl (Nat.le_of_ble_eq_true rfl) hd (fun H1 locs1 hP1 _ hS1 => h H1 locs1 ls (by rw [← wf_5_8]; exact hP1) hS1 hl)
  · exact va_putN (D := g.1) (C := RX5) (T := TX5) (N := 10) (ci := 5) (ty := .int) hx hb hts hin tyX5 tyX5_ok nmX5 hown hK hP (hD X M) hS 5 (wg_5 g X M) rfl 8 (by decide) hf (fun _ h9 => h9) rfl (by decide +kernel) rfl rfl (Nat.le_of_ble_eq_true rfl) hd (fun H1 locs1 hP1 _ hS1 => h H1 locs1 ls (by rw [← wf_5_8]; exact hP1) hS1 hl)
theorem jg_5_9 {idx : Nat} (hκ : CF κ g own cc Ts nL rm) (hin : ∀ w ∈ wsX50, w ∈ Ts) (hf : fl κ own idx "LampRound$Search" "bestLength" "I") (hd : decode cc pc = .ok (.getfield idx, 3)) (ep : pc + 3 = pc') (h : Jw κ g nL X M lv pc' (.int (X.1 7) :: st)) : Jw κ g nL X M lv pc (.ref (g.2.1 5) :: st) := by
  obtain ⟨p, l, e, R, s, m, args, below, meth, c, cells, slots, Q, A⟩ := κ
  obtain ⟨hx, hb, hml, hown, hts, hK, hN, hD, hAA, rfl, hc9, hs9, hg⟩ := hκ
  subst ep
  intro H locs ls hP hS hl
  rcases hf with hf | ⟨host, hf⟩
  · exact va_get (D := g.1) (C := RX5) (T := TX5) (N := 10) (ci := 5) hx hb hts hin hown hK hP 5 (wg_5 g X M) rfl 9 (by decide) hf (fun _ h9 => h9) rfl hd (h H locs ls hP hS hl)
  · exact va_getN (D := g.1) (C := RX5) (T := TX5) (N := 10) (ci := 5) hx hb hts hin hown hK hP 5 (wg_5 g X M) rfl 9 (by decide) hf (fun _ h9 => h9) rfl hd (h H locs ls hP hS hl)
theorem jp_5_9 {idx : Nat} {v : Int32} (hκ : CF κ g own cc Ts nL rm) (hin : ∀ w ∈ wsX50, w ∈ Ts) (hf : fl κ own idx "LampRound$Search" "bestLength" "I") (hd : decode cc pc = .ok (.putfield idx, 3)) (ep : pc + 3 = pc') (h : Jw κ g nL (ks_sI X 7 v) M lv pc' st) : Jw κ g nL X M lv pc (.int v :: .ref (g.2.1 5) :: st) := by
  obtain ⟨p, l, e, R, s, m, args, below, meth, c, cells, slots, Q, A⟩ := κ
  obtain ⟨hx, hb, hml, hown, hts, hK, hN, hD, hAA, rfl, hc9, hs9, hg⟩ := hκ
  subst ep
  intro H locs ls hP hS hl
  rcases hf with hf | ⟨host, hf⟩
  · exact va_put (D := g.1) (C := RX5) (T := TX5) (N := 10) (ci := 5) (ty := .int) hx hb hts hin tyX5 tyX5_ok nmX5 hown hK hP (hD X M) hS 5 (wg_5 g X M) rfl 9 (by decide) hf (fun _ h9 => h9) rfl (by decide +kernel) rfl rfl (Nat.le_of_ble_eq_true rfl) hd (fun H1 locs1 hP1 _ hS1 => h H1 locs1 ls (by rw [← wf_5_9]; exact hP1) hS1 hl)
  · exact va_putN (D := g.1) (C := RX5) (T := TX5) (N := 10) (ci := 5) (ty := .int) hx hb hts hin tyX5 tyX5_ok nmX5 hown hK hP (hD X M) hS 5 (wg_5 g X M) rfl 9 (by decide) hf (fun _ h9 => h9) rfl (by decide +kernel) rfl rfl (Nat.le_of_ble_eq_true rfl) hd (fun H1 locs1 hP1 _ hS1 => h H1 locs1 ls (by rw [← wf_5_9]; exact hP1) hS1 hl)
theorem jg_6_0 {idx : Nat} (hκ : CF κ g own cc Ts nL rm) (hin : ∀ w ∈ wsX00, w ∈ Ts) (hf : fl κ own idx "LampRound$Case" "joined" "[I") (hd : decode cc pc = .ok (.getfield idx, 3)) (ep : pc + 3 = pc') (h : Jw κ g nL X M lv pc' (.ref (g.2.1 34) :: st)) : Jw κ g nL X M lv pc (.ref (g.2.1 6) :: st) := by
  obtain ⟨p, l, e, R, s, m, args, below, meth, c, cells, slots, Q, A⟩ := κ
  obtain ⟨hx, hb, hml, hown, hts, hK, hN, hD, hAA, rfl, hc9, hs9, hg⟩ := hκ
  subst ep
  intro H locs ls hP hS hl
  rcases hf with hf | ⟨host, hf⟩
  · exact va_get (D := g.1) (C := RX0) (T := TX0) (N := 6) (ci := 0) hx hb hts hin hown hK hP 6 (wg_6 g X M) rfl 0 (by decide) hf (fun _ h9 => h9) rfl hd (h H locs ls hP hS hl)
  · exact va_getN (D := g.1) (C := RX0) (T := TX0) (N := 6) (ci := 0) hx hb hts hin hown hK hP 6 (wg_6 g X M) rfl 0 (by decide) hf (fun _ h9 => h9) rfl hd (h H locs ls hP hS hl)
theorem jg_6_1 {idx : Nat} (hκ : CF κ g own cc Ts nL rm) (hin : ∀ w ∈ wsX00, w ∈ Ts) (hf : fl κ own idx "LampRound$Case" "parted" "[I") (hd : decode cc pc = .ok (.getfield idx, 3)) (ep : pc + 3 = pc') (h : Jw κ g nL X M lv pc' (.ref (g.2.1 35) :: st)) : Jw κ g nL X M lv pc (.ref (g.2.1 6) :: st) := by
  obtain ⟨p, l, e, R, s, m, args, below, meth, c, cells, slots, Q, A⟩ := κ
  obtain ⟨hx, hb, hml, hown, hts, hK, hN, hD, hAA, rfl, hc9, hs9, hg⟩ := hκ
  subst ep
  intro H locs ls hP hS hl
  rcases hf with hf | ⟨host, hf⟩
  · exact va_get (D := g.1) (C := RX0) (T := TX0) (N := 6) (ci := 0) hx hb hts hin hown hK hP 6 (wg_6 g X M) rfl 1 (by decide) hf (fun _ h9 => h9) rfl hd (h H locs ls hP hS hl)
  · exact va_getN (D := g.1) (C := RX0) (T := TX0) (N := 6) (ci := 0) hx hb hts hin hown hK hP 6 (wg_6 g X M) rfl 1 (by decide) hf (fun _ h9 => h9) rfl hd (h H locs ls hP hS hl)
theorem jg_6_2 {idx : Nat} (hκ : CF κ g own cc Ts nL rm) (hin : ∀ w ∈ wsX00, w ∈ Ts) (hf : fl κ own idx "LampRound$Case" "split" "[I") (hd : decode cc pc = .ok (.getfield idx, 3)) (ep : pc + 3 = pc') (h : Jw κ g nL X M lv pc' (.ref (g.2.1 36) :: st)) : Jw κ g nL X M lv pc (.ref (g.2.1 6) :: st) := by
  obtain ⟨p, l, e, R, s, m, args, below, meth, c, cells, slots, Q, A⟩ := κ
  obtain ⟨hx, hb, hml, hown, hts, hK, hN, hD, hAA, rfl, hc9, hs9, hg⟩ := hκ
  subst ep
  intro H locs ls hP hS hl
  rcases hf with hf | ⟨host, hf⟩
  · exact va_get (D := g.1) (C := RX0) (T := TX0) (N := 6) (ci := 0) hx hb hts hin hown hK hP 6 (wg_6 g X M) rfl 2 (by decide) hf (fun _ h9 => h9) rfl hd (h H locs ls hP hS hl)
  · exact va_getN (D := g.1) (C := RX0) (T := TX0) (N := 6) (ci := 0) hx hb hts hin hown hK hP 6 (wg_6 g X M) rfl 2 (by decide) hf (fun _ h9 => h9) rfl hd (h H locs ls hP hS hl)
theorem jg_6_3 {idx : Nat} (hκ : CF κ g own cc Ts nL rm) (hin : ∀ w ∈ wsX00, w ∈ Ts) (hf : fl κ own idx "LampRound$Case" "isSecond" "[Z") (hd : decode cc pc = .ok (.getfield idx, 3)) (ep : pc + 3 = pc') (h : Jw κ g nL X M lv pc' (.ref (g.2.1 37) :: st)) : Jw κ g nL X M lv pc (.ref (g.2.1 6) :: st) := by
  obtain ⟨p, l, e, R, s, m, args, below, meth, c, cells, slots, Q, A⟩ := κ
  obtain ⟨hx, hb, hml, hown, hts, hK, hN, hD, hAA, rfl, hc9, hs9, hg⟩ := hκ
  subst ep
  intro H locs ls hP hS hl
  rcases hf with hf | ⟨host, hf⟩
  · exact va_get (D := g.1) (C := RX0) (T := TX0) (N := 6) (ci := 0) hx hb hts hin hown hK hP 6 (wg_6 g X M) rfl 3 (by decide) hf (fun _ h9 => h9) rfl hd (h H locs ls hP hS hl)
  · exact va_getN (D := g.1) (C := RX0) (T := TX0) (N := 6) (ci := 0) hx hb hts hin hown hK hP 6 (wg_6 g X M) rfl 3 (by decide) hf (fun _ h9 => h9) rfl hd (h H locs ls hP hS hl)
theorem jg_6_4 {idx : Nat} (hκ : CF κ g own cc Ts nL rm) (hin : ∀ w ∈ wsX00, w ∈ Ts) (hf : fl κ own idx "LampRound$Case" "depth" "I") (hd : decode cc pc = .ok (.getfield idx, 3)) (ep : pc + 3 = pc') (h : Jw κ g nL X M lv pc' (.int (X.1 8) :: st)) : Jw κ g nL X M lv pc (.ref (g.2.1 6) :: st) := by
  obtain ⟨p, l, e, R, s, m, args, below, meth, c, cells, slots, Q, A⟩ := κ
  obtain ⟨hx, hb, hml, hown, hts, hK, hN, hD, hAA, rfl, hc9, hs9, hg⟩ := hκ
  subst ep
  intro H locs ls hP hS hl
  rcases hf with hf | ⟨host, hf⟩
  · exact va_get (D := g.1) (C := RX0) (T := TX0) (N := 6) (ci := 0) hx hb hts hin hown hK hP 6 (wg_6 g X M) rfl 4 (by decide) hf (fun _ h9 => h9) rfl hd (h H locs ls hP hS hl)
  · exact va_getN (D := g.1) (C := RX0) (T := TX0) (N := 6) (ci := 0) hx hb hts hin hown hK hP 6 (wg_6 g X M) rfl 4 (by decide) hf (fun _ h9 => h9) rfl hd (h H locs ls hP hS hl)
theorem jp_6_4 {idx : Nat} {v : Int32} (hκ : CF κ g own cc Ts nL rm) (hin : ∀ w ∈ wsX00, w ∈ Ts) (hf : fl κ own idx "LampRound$Case" "depth" "I") (hd : decode cc pc = .ok (.putfield idx, 3)) (ep : pc + 3 = pc') (h : Jw κ g nL (ks_sI X 8 v) M lv pc' st) : Jw κ g nL X M lv pc (.int v :: .ref (g.2.1 6) :: st) := by
  obtain ⟨p, l, e, R, s, m, args, below, meth, c, cells, slots, Q, A⟩ := κ
  obtain ⟨hx, hb, hml, hown, hts, hK, hN, hD, hAA, rfl, hc9, hs9, hg⟩ := hκ
  subst ep
  intro H locs ls hP hS hl
  rcases hf with hf | ⟨host, hf⟩
  · exact va_put (D := g.1) (C := RX0) (T := TX0) (N := 6) (ci := 0) (ty := .int) hx hb hts hin tyX0 tyX0_ok nmX0 hown hK hP (hD X M) hS 6 (wg_6 g X M) rfl 4 (by decide) hf (fun _ h9 => h9) rfl (by decide +kernel) rfl rfl (Nat.le_of_ble_eq_true rfl) hd (fun H1 locs1 hP1 _ hS1 => h H1 locs1 ls (by rw [← wf_6_4]; exact hP1) hS1 hl)
  · exact va_putN (D := g.1) (C := RX0) (T := TX0) (N := 6) (ci := 0) (ty := .int) hx hb hts hin tyX0 tyX0_ok nmX0 hown hK hP (hD X M) hS 6 (wg_6 g X M) rfl 4 (by decide) hf (fun _ h9 => h9) rfl (by decide +kernel) rfl rfl (Nat.le_of_ble_eq_true rfl) hd (fun H1 locs1 hP1 _ hS1 => h H1 locs1 ls (by rw [← wf_6_4]; exact hP1) hS1 hl)
theorem jg_6_5 {idx : Nat} (hκ : CF κ g own cc Ts nL rm) (hin : ∀ w ∈ wsX00, w ∈ Ts) (hf : fl κ own idx "LampRound$Case" "isOver" "Z") (hd : decode cc pc = .ok (.getfield idx, 3)) (ep : pc + 3 = pc') (h : Jw κ g nL X M lv pc' (.int (X.1 9) :: st)) : Jw κ g nL X M lv pc (.ref (g.2.1 6) :: st) := by
  obtain ⟨p, l, e, R, s, m, args, below, meth, c, cells, slots, Q, A⟩ := κ
  obtain ⟨hx, hb, hml, hown, hts, hK, hN, hD, hAA, rfl, hc9, hs9, hg⟩ := hκ
  subst ep
  intro H locs ls hP hS hl
  rcases hf with hf | ⟨host, hf⟩
  · exact va_get (D := g.1) (C := RX0) (T := TX0) (N := 6) (ci := 0) hx hb hts hin hown hK hP 6 (wg_6 g X M) rfl 5 (by decide) hf (fun _ h9 => h9) rfl hd (h H locs ls hP hS hl)
  · exact va_getN (D := g.1) (C := RX0) (T := TX0) (N := 6) (ci := 0) hx hb hts hin hown hK hP 6 (wg_6 g X M) rfl 5 (by decide) hf (fun _ h9 => h9) rfl hd (h H locs ls hP hS hl)
theorem jp_6_5 {idx : Nat} {v : Int32} (hκ : CF κ g own cc Ts nL rm) (hin : ∀ w ∈ wsX00, w ∈ Ts) (hf : fl κ own idx "LampRound$Case" "isOver" "Z") (hz : bz v) (hd : decode cc pc = .ok (.putfield idx, 3)) (ep : pc + 3 = pc') (h : Jw κ g nL (ks_sI X 9 v) M lv pc' st) : Jw κ g nL X M lv pc (.int v :: .ref (g.2.1 6) :: st) := by
  obtain ⟨p, l, e, R, s, m, args, below, meth, c, cells, slots, Q, A⟩ := κ
  obtain ⟨hx, hb, hml, hown, hts, hK, hN, hD, hAA, rfl, hc9, hs9, hg⟩ := hκ
  subst ep
  intro H locs ls hP hS hl
  rcases hf with hf | ⟨host, hf⟩
  · exact va_put (D := g.1) (C := RX0) (T := TX0) (N := 6) (ci := 0) (ty := .boolean) hx hb hts hin tyX0 tyX0_ok nmX0 hown hK hP (hD X M) hS 6 (wg_6 g X M) rfl 5 (by decide) hf (fun _ h9 => h9) rfl (by decide +kernel) hz.nar hz.fit (Nat.le_of_ble_eq_true rfl) hd (fun H1 locs1 hP1 _ hS1 => h H1 locs1 ls (by rw [← wf_6_5]; exact hP1) hS1 hl)
  · exact va_putN (D := g.1) (C := RX0) (T := TX0) (N := 6) (ci := 0) (ty := .boolean) hx hb hts hin tyX0 tyX0_ok nmX0 hown hK hP (hD X M) hS 6 (wg_6 g X M) rfl 5 (by decide) hf (fun _ h9 => h9) rfl (by decide +kernel) hz.nar hz.fit (Nat.le_of_ble_eq_true rfl) hd (fun H1 locs1 hP1 _ hS1 => h H1 locs1 ls (by rw [← wf_6_5]; exact hP1) hS1 hl)
theorem jg_7_0 {idx : Nat} (hκ : CF κ g own cc Ts nL rm) (hin : ∀ w ∈ wsX80, w ∈ Ts) (hf : fl κ own idx "LampRound$Tree" "lamps" "LLampRound$Lamps;") (hd : decode cc pc = .ok (.getfield idx, 3)) (ep : pc + 3 = pc') (h : Jw κ g nL X M lv pc' (.ref (g.2.1 3) :: st)) : Jw κ g nL X M lv pc (.ref (g.2.1 7) :: st) := by
  obtain ⟨p, l, e, R, s, m, args, below, meth, c, cells, slots, Q, A⟩ := κ
  obtain ⟨hx, hb, hml, hown, hts, hK, hN, hD, hAA, rfl, hc9, hs9, hg⟩ := hκ
  subst ep
  intro H locs ls hP hS hl
  rcases hf with hf | ⟨host, hf⟩
  · exact va_get (D := g.1) (C := RX8) (T := TX8) (N := 9) (ci := 8) hx hb hts hin hown hK hP 7 (wg_7 g X M) rfl 0 (by decide) hf (fun _ h9 => h9) rfl hd (h H locs ls hP hS hl)
  · exact va_getN (D := g.1) (C := RX8) (T := TX8) (N := 9) (ci := 8) hx hb hts hin hown hK hP 7 (wg_7 g X M) rfl 0 (by decide) hf (fun _ h9 => h9) rfl hd (h H locs ls hP hS hl)
theorem jg_7_1 {idx : Nat} (hκ : CF κ g own cc Ts nL rm) (hin : ∀ w ∈ wsX80, w ∈ Ts) (hf : fl κ own idx "LampRound$Tree" "present" "LLampRound$Case;") (hd : decode cc pc = .ok (.getfield idx, 3)) (ep : pc + 3 = pc') (h : Jw κ g nL X M lv pc' (.ref (g.2.1 6) :: st)) : Jw κ g nL X M lv pc (.ref (g.2.1 7) :: st) := by
  obtain ⟨p, l, e, R, s, m, args, below, meth, c, cells, slots, Q, A⟩ := κ
  obtain ⟨hx, hb, hml, hown, hts, hK, hN, hD, hAA, rfl, hc9, hs9, hg⟩ := hκ
  subst ep
  intro H locs ls hP hS hl
  rcases hf with hf | ⟨host, hf⟩
  · exact va_get (D := g.1) (C := RX8) (T := TX8) (N := 9) (ci := 8) hx hb hts hin hown hK hP 7 (wg_7 g X M) rfl 1 (by decide) hf (fun _ h9 => h9) rfl hd (h H locs ls hP hS hl)
  · exact va_getN (D := g.1) (C := RX8) (T := TX8) (N := 9) (ci := 8) hx hb hts hin hown hK hP 7 (wg_7 g X M) rfl 1 (by decide) hf (fun _ h9 => h9) rfl hd (h H locs ls hP hS hl)
theorem jg_7_2 {idx : Nat} (hκ : CF κ g own cc Ts nL rm) (hin : ∀ w ∈ wsX80, w ∈ Ts) (hf : fl κ own idx "LampRound$Tree" "ranked" "[J") (hd : decode cc pc = .ok (.getfield idx, 3)) (ep : pc + 3 = pc') (h : Jw κ g nL X M lv pc' (.ref (g.2.1 38) :: st)) : Jw κ g nL X M lv pc (.ref (g.2.1 7) :: st) := by
  obtain ⟨p, l, e, R, s, m, args, below, meth, c, cells, slots, Q, A⟩ := κ
  obtain ⟨hx, hb, hml, hown, hts, hK, hN, hD, hAA, rfl, hc9, hs9, hg⟩ := hκ
  subst ep
  intro H locs ls hP hS hl
  rcases hf with hf | ⟨host, hf⟩
  · exact va_get (D := g.1) (C := RX8) (T := TX8) (N := 9) (ci := 8) hx hb hts hin hown hK hP 7 (wg_7 g X M) rfl 2 (by decide) hf (fun _ h9 => h9) rfl hd (h H locs ls hP hS hl)
  · exact va_getN (D := g.1) (C := RX8) (T := TX8) (N := 9) (ci := 8) hx hb hts hin hown hK hP 7 (wg_7 g X M) rfl 2 (by decide) hf (fun _ h9 => h9) rfl hd (h H locs ls hP hS hl)
theorem jg_7_3 {idx : Nat} (hκ : CF κ g own cc Ts nL rm) (hin : ∀ w ∈ wsX80, w ∈ Ts) (hf : fl κ own idx "LampRound$Tree" "takenPairs" "[I") (hd : decode cc pc = .ok (.getfield idx, 3)) (ep : pc + 3 = pc') (h : Jw κ g nL X M lv pc' (.ref (g.2.1 39) :: st)) : Jw κ g nL X M lv pc (.ref (g.2.1 7) :: st) := by
  obtain ⟨p, l, e, R, s, m, args, below, meth, c, cells, slots, Q, A⟩ := κ
  obtain ⟨hx, hb, hml, hown, hts, hK, hN, hD, hAA, rfl, hc9, hs9, hg⟩ := hκ
  subst ep
  intro H locs ls hP hS hl
  rcases hf with hf | ⟨host, hf⟩
  · exact va_get (D := g.1) (C := RX8) (T := TX8) (N := 9) (ci := 8) hx hb hts hin hown hK hP 7 (wg_7 g X M) rfl 3 (by decide) hf (fun _ h9 => h9) rfl hd (h H locs ls hP hS hl)
  · exact va_getN (D := g.1) (C := RX8) (T := TX8) (N := 9) (ci := 8) hx hb hts hin hown hK hP 7 (wg_7 g X M) rfl 3 (by decide) hf (fun _ h9 => h9) rfl hd (h H locs ls hP hS hl)
theorem jg_7_4 {idx : Nat} (hκ : CF κ g own cc Ts nL rm) (hin : ∀ w ∈ wsX80, w ∈ Ts) (hf : fl κ own idx "LampRound$Tree" "hung" "[I") (hd : decode cc pc = .ok (.getfield idx, 3)) (ep : pc + 3 = pc') (h : Jw κ g nL X M lv pc' (.ref (g.2.1 40) :: st)) : Jw κ g nL X M lv pc (.ref (g.2.1 7) :: st) := by
  obtain ⟨p, l, e, R, s, m, args, below, meth, c, cells, slots, Q, A⟩ := κ
  obtain ⟨hx, hb, hml, hown, hts, hK, hN, hD, hAA, rfl, hc9, hs9, hg⟩ := hκ
  subst ep
  intro H locs ls hP hS hl
  rcases hf with hf | ⟨host, hf⟩
  · exact va_get (D := g.1) (C := RX8) (T := TX8) (N := 9) (ci := 8) hx hb hts hin hown hK hP 7 (wg_7 g X M) rfl 4 (by decide) hf (fun _ h9 => h9) rfl hd (h H locs ls hP hS hl)
  · exact va_getN (D := g.1) (C := RX8) (T := TX8) (N := 9) (ci := 8) hx hb hts hin hown hK hP 7 (wg_7 g X M) rfl 4 (by decide) hf (fun _ h9 => h9) rfl hd (h H locs ls hP hS hl)
theorem jg_7_5 {idx : Nat} (hκ : CF κ g own cc Ts nL rm) (hin : ∀ w ∈ wsX80, w ∈ Ts) (hf : fl κ own idx "LampRound$Tree" "pairs" "I") (hd : decode cc pc = .ok (.getfield idx, 3)) (ep : pc + 3 = pc') (h : Jw κ g nL X M lv pc' (.int (X.1 10) :: st)) : Jw κ g nL X M lv pc (.ref (g.2.1 7) :: st) := by
  obtain ⟨p, l, e, R, s, m, args, below, meth, c, cells, slots, Q, A⟩ := κ
  obtain ⟨hx, hb, hml, hown, hts, hK, hN, hD, hAA, rfl, hc9, hs9, hg⟩ := hκ
  subst ep
  intro H locs ls hP hS hl
  rcases hf with hf | ⟨host, hf⟩
  · exact va_get (D := g.1) (C := RX8) (T := TX8) (N := 9) (ci := 8) hx hb hts hin hown hK hP 7 (wg_7 g X M) rfl 5 (by decide) hf (fun _ h9 => h9) rfl hd (h H locs ls hP hS hl)
  · exact va_getN (D := g.1) (C := RX8) (T := TX8) (N := 9) (ci := 8) hx hb hts hin hown hK hP 7 (wg_7 g X M) rfl 5 (by decide) hf (fun _ h9 => h9) rfl hd (h H locs ls hP hS hl)
theorem jp_7_5 {idx : Nat} {v : Int32} (hκ : CF κ g own cc Ts nL rm) (hin : ∀ w ∈ wsX80, w ∈ Ts) (hf : fl κ own idx "LampRound$Tree" "pairs" "I") (hd : decode cc pc = .ok (.putfield idx, 3)) (ep : pc + 3 = pc') (h : Jw κ g nL (ks_sI X 10 v) M lv pc' st) : Jw κ g nL X M lv pc (.int v :: .ref (g.2.1 7) :: st) := by
  obtain ⟨p, l, e, R, s, m, args, below, meth, c, cells, slots, Q, A⟩ := κ
  obtain ⟨hx, hb, hml, hown, hts, hK, hN, hD, hAA, rfl, hc9, hs9, hg⟩ := hκ
  subst ep
  intro H locs ls hP hS hl
  rcases hf with hf | ⟨host, hf⟩
  · exact va_put (D := g.1) (C := RX8) (T := TX8) (N := 9) (ci := 8) (ty := .int) hx hb hts hin tyX8 tyX8_ok nmX8 hown hK hP (hD X M) hS 7 (wg_7 g X M) rfl 5 (by decide) hf (fun _ h9 => h9) rfl (by decide +kernel) rfl rfl (Nat.le_of_ble_eq_true rfl) hd (fun H1 locs1 hP1 _ hS1 => h H1 locs1 ls (by rw [← wf_7_5]; exact hP1) hS1 hl)
  · exact va_putN (D := g.1) (C := RX8) (T := TX8) (N := 9) (ci := 8) (ty := .int) hx hb hts hin tyX8 tyX8_ok nmX8 hown hK hP (hD X M) hS 7 (wg_7 g X M) rfl 5 (by decide) hf (fun _ h9 => h9) rfl (by decide +kernel) rfl rfl (Nat.le_of_ble_eq_true rfl) hd (fun H1 locs1 hP1 _ hS1 => h H1 locs1 ls (by rw [← wf_7_5]; exact hP1) hS1 hl)
theorem jg_7_6 {idx : Nat} (hκ : CF κ g own cc Ts nL rm) (hin : ∀ w ∈ wsX80, w ∈ Ts) (hf : fl κ own idx "LampRound$Tree" "takenCount" "I") (hd : decode cc pc = .ok (.getfield idx, 3)) (ep : pc + 3 = pc') (h : Jw κ g nL X M lv pc' (.int (X.1 11) :: st)) : Jw κ g nL X M lv pc (.ref (g.2.1 7) :: st) := by
  obtain ⟨p, l, e, R, s, m, args, below, meth, c, cells, slots, Q, A⟩ := κ
  obtain ⟨hx, hb, hml, hown, hts, hK, hN, hD, hAA, rfl, hc9, hs9, hg⟩ := hκ
  subst ep
  intro H locs ls hP hS hl
  rcases hf with hf | ⟨host, hf⟩
  · exact va_get (D := g.1) (C := RX8) (T := TX8) (N := 9) (ci := 8) hx hb hts hin hown hK hP 7 (wg_7 g X M) rfl 6 (by decide) hf (fun _ h9 => h9) rfl hd (h H locs ls hP hS hl)
  · exact va_getN (D := g.1) (C := RX8) (T := TX8) (N := 9) (ci := 8) hx hb hts hin hown hK hP 7 (wg_7 g X M) rfl 6 (by decide) hf (fun _ h9 => h9) rfl hd (h H locs ls hP hS hl)
theorem jp_7_6 {idx : Nat} {v : Int32} (hκ : CF κ g own cc Ts nL rm) (hin : ∀ w ∈ wsX80, w ∈ Ts) (hf : fl κ own idx "LampRound$Tree" "takenCount" "I") (hd : decode cc pc = .ok (.putfield idx, 3)) (ep : pc + 3 = pc') (h : Jw κ g nL (ks_sI X 11 v) M lv pc' st) : Jw κ g nL X M lv pc (.int v :: .ref (g.2.1 7) :: st) := by
  obtain ⟨p, l, e, R, s, m, args, below, meth, c, cells, slots, Q, A⟩ := κ
  obtain ⟨hx, hb, hml, hown, hts, hK, hN, hD, hAA, rfl, hc9, hs9, hg⟩ := hκ
  subst ep
  intro H locs ls hP hS hl
  rcases hf with hf | ⟨host, hf⟩
  · exact va_put (D := g.1) (C := RX8) (T := TX8) (N := 9) (ci := 8) (ty := .int) hx hb hts hin tyX8 tyX8_ok nmX8 hown hK hP (hD X M) hS 7 (wg_7 g X M) rfl 6 (by decide) hf (fun _ h9 => h9) rfl (by decide +kernel) rfl rfl (Nat.le_of_ble_eq_true rfl) hd (fun H1 locs1 hP1 _ hS1 => h H1 locs1 ls (by rw [← wf_7_6]; exact hP1) hS1 hl)
  · exact va_putN (D := g.1) (C := RX8) (T := TX8) (N := 9) (ci := 8) (ty := .int) hx hb hts hin tyX8 tyX8_ok nmX8 hown hK hP (hD X M) hS 7 (wg_7 g X M) rfl 6 (by decide) hf (fun _ h9 => h9) rfl (by decide +kernel) rfl rfl (Nat.le_of_ble_eq_true rfl) hd (fun H1 locs1 hP1 _ hS1 => h H1 locs1 ls (by rw [← wf_7_6]; exact hP1) hS1 hl)
theorem jg_7_7 {idx : Nat} (hκ : CF κ g own cc Ts nL rm) (hin : ∀ w ∈ wsX80, w ∈ Ts) (hf : fl κ own idx "LampRound$Tree" "takenOfFirst" "I") (hd : decode cc pc = .ok (.getfield idx, 3)) (ep : pc + 3 = pc') (h : Jw κ g nL X M lv pc' (.int (X.1 12) :: st)) : Jw κ g nL X M lv pc (.ref (g.2.1 7) :: st) := by
  obtain ⟨p, l, e, R, s, m, args, below, meth, c, cells, slots, Q, A⟩ := κ
  obtain ⟨hx, hb, hml, hown, hts, hK, hN, hD, hAA, rfl, hc9, hs9, hg⟩ := hκ
  subst ep
  intro H locs ls hP hS hl
  rcases hf with hf | ⟨host, hf⟩
  · exact va_get (D := g.1) (C := RX8) (T := TX8) (N := 9) (ci := 8) hx hb hts hin hown hK hP 7 (wg_7 g X M) rfl 7 (by decide) hf (fun _ h9 => h9) rfl hd (h H locs ls hP hS hl)
  · exact va_getN (D := g.1) (C := RX8) (T := TX8) (N := 9) (ci := 8) hx hb hts hin hown hK hP 7 (wg_7 g X M) rfl 7 (by decide) hf (fun _ h9 => h9) rfl hd (h H locs ls hP hS hl)
theorem jp_7_7 {idx : Nat} {v : Int32} (hκ : CF κ g own cc Ts nL rm) (hin : ∀ w ∈ wsX80, w ∈ Ts) (hf : fl κ own idx "LampRound$Tree" "takenOfFirst" "I") (hd : decode cc pc = .ok (.putfield idx, 3)) (ep : pc + 3 = pc') (h : Jw κ g nL (ks_sI X 12 v) M lv pc' st) : Jw κ g nL X M lv pc (.int v :: .ref (g.2.1 7) :: st) := by
  obtain ⟨p, l, e, R, s, m, args, below, meth, c, cells, slots, Q, A⟩ := κ
  obtain ⟨hx, hb, hml, hown, hts, hK, hN, hD, hAA, rfl, hc9, hs9, hg⟩ := hκ
  subst ep
  intro H locs ls hP hS hl
  rcases hf with hf | ⟨host, hf⟩
  · exact va_put (D := g.1) (C := RX8) (T := TX8) (N := 9) (ci := 8) (ty := .int) hx hb hts hin tyX8 tyX8_ok nmX8 hown hK hP (hD X M) hS 7 (wg_7 g X M) rfl 7 (by decide) hf (fun _ h9 => h9) rfl (by decide +kernel) rfl rfl (Nat.le_of_ble_eq_true rfl) hd (fun H1 locs1 hP1 _ hS1 => h H1 locs1 ls (by rw [← wf_7_7]; exact hP1) hS1 hl)
  · exact va_putN (D := g.1) (C := RX8) (T := TX8) (N := 9) (ci := 8) (ty := .int) hx hb hts hin tyX8 tyX8_ok nmX8 hown hK hP (hD X M) hS 7 (wg_7 g X M) rfl 7 (by decide) hf (fun _ h9 => h9) rfl (by decide +kernel) rfl rfl (Nat.le_of_ble_eq_true rfl) hd (fun H1 locs1 hP1 _ hS1 => h H1 locs1 ls (by rw [← wf_7_7]; exact hP1) hS1 hl)
theorem jg_7_8 {idx : Nat} (hκ : CF κ g own cc Ts nL rm) (hin : ∀ w ∈ wsX80, w ∈ Ts) (hf : fl κ own idx "LampRound$Tree" "sum" "J") (hd : decode cc pc = .ok (.getfield idx, 3)) (ep : pc + 3 = pc') (h : Jw κ g nL X M lv pc' (.long (X.2.1 1) :: st)) : Jw κ g nL X M lv pc (.ref (g.2.1 7) :: st) := by
  obtain ⟨p, l, e, R, s, m, args, below, meth, c, cells, slots, Q, A⟩ := κ
  obtain ⟨hx, hb, hml, hown, hts, hK, hN, hD, hAA, rfl, hc9, hs9, hg⟩ := hκ
  subst ep
  intro H locs ls hP hS hl
  rcases hf with hf | ⟨host, hf⟩
  · exact va_get (D := g.1) (C := RX8) (T := TX8) (N := 9) (ci := 8) hx hb hts hin hown hK hP 7 (wg_7 g X M) rfl 8 (by decide) hf (fun _ h9 => h9) rfl hd (h H locs ls hP hS hl)
  · exact va_getN (D := g.1) (C := RX8) (T := TX8) (N := 9) (ci := 8) hx hb hts hin hown hK hP 7 (wg_7 g X M) rfl 8 (by decide) hf (fun _ h9 => h9) rfl hd (h H locs ls hP hS hl)
theorem jp_7_8 {idx : Nat} {v : Int64} (hκ : CF κ g own cc Ts nL rm) (hin : ∀ w ∈ wsX80, w ∈ Ts) (hf : fl κ own idx "LampRound$Tree" "sum" "J") (hd : decode cc pc = .ok (.putfield idx, 3)) (ep : pc + 3 = pc') (h : Jw κ g nL (ks_sJ X 1 v) M lv pc' st) : Jw κ g nL X M lv pc (.long v :: .ref (g.2.1 7) :: st) := by
  obtain ⟨p, l, e, R, s, m, args, below, meth, c, cells, slots, Q, A⟩ := κ
  obtain ⟨hx, hb, hml, hown, hts, hK, hN, hD, hAA, rfl, hc9, hs9, hg⟩ := hκ
  subst ep
  intro H locs ls hP hS hl
  rcases hf with hf | ⟨host, hf⟩
  · exact va_put (D := g.1) (C := RX8) (T := TX8) (N := 9) (ci := 8) (ty := .long) hx hb hts hin tyX8 tyX8_ok nmX8 hown hK hP (hD X M) hS 7 (wg_7 g X M) rfl 8 (by decide) hf (fun _ h9 => h9) rfl (by decide +kernel) rfl rfl (Nat.le_of_ble_eq_true rfl) hd (fun H1 locs1 hP1 _ hS1 => h H1 locs1 ls (by rw [← wf_7_8]; exact hP1) hS1 hl)
  · exact va_putN (D := g.1) (C := RX8) (T := TX8) (N := 9) (ci := 8) (ty := .long) hx hb hts hin tyX8 tyX8_ok nmX8 hown hK hP (hD X M) hS 7 (wg_7 g X M) rfl 8 (by decide) hf (fun _ h9 => h9) rfl (by decide +kernel) rfl rfl (Nat.le_of_ble_eq_true rfl) hd (fun H1 locs1 hP1 _ hS1 => h H1 locs1 ls (by rw [← wf_7_8]; exact hP1) hS1 hl)
theorem jg_8_0 {idx : Nat} (hκ : CF κ g own cc Ts nL rm) (hin : ∀ w ∈ wsX10, w ∈ Ts) (hf : fl κ own idx "LampRound$Judge" "lamps" "LLampRound$Lamps;") (hd : decode cc pc = .ok (.getfield idx, 3)) (ep : pc + 3 = pc') (h : Jw κ g nL X M lv pc' (.ref (g.2.1 3) :: st)) : Jw κ g nL X M lv pc (.ref (g.2.1 8) :: st) := by
  obtain ⟨p, l, e, R, s, m, args, below, meth, c, cells, slots, Q, A⟩ := κ
  obtain ⟨hx, hb, hml, hown, hts, hK, hN, hD, hAA, rfl, hc9, hs9, hg⟩ := hκ
  subst ep
  intro H locs ls hP hS hl
  rcases hf with hf | ⟨host, hf⟩
  · exact va_get (D := g.1) (C := RX1) (T := TX1) (N := 3) (ci := 1) hx hb hts hin hown hK hP 8 (wg_8 g X M) rfl 0 (by decide) hf (fun _ h9 => h9) rfl hd (h H locs ls hP hS hl)
  · exact va_getN (D := g.1) (C := RX1) (T := TX1) (N := 3) (ci := 1) hx hb hts hin hown hK hP 8 (wg_8 g X M) rfl 0 (by decide) hf (fun _ h9 => h9) rfl hd (h H locs ls hP hS hl)
theorem jg_8_1 {idx : Nat} (hκ : CF κ g own cc Ts nL rm) (hin : ∀ w ∈ wsX10, w ∈ Ts) (hf : fl κ own idx "LampRound$Judge" "present" "LLampRound$Case;") (hd : decode cc pc = .ok (.getfield idx, 3)) (ep : pc + 3 = pc') (h : Jw κ g nL X M lv pc' (.ref (g.2.1 6) :: st)) : Jw κ g nL X M lv pc (.ref (g.2.1 8) :: st) := by
  obtain ⟨p, l, e, R, s, m, args, below, meth, c, cells, slots, Q, A⟩ := κ
  obtain ⟨hx, hb, hml, hown, hts, hK, hN, hD, hAA, rfl, hc9, hs9, hg⟩ := hκ
  subst ep
  intro H locs ls hP hS hl
  rcases hf with hf | ⟨host, hf⟩
  · exact va_get (D := g.1) (C := RX1) (T := TX1) (N := 3) (ci := 1) hx hb hts hin hown hK hP 8 (wg_8 g X M) rfl 1 (by decide) hf (fun _ h9 => h9) rfl hd (h H locs ls hP hS hl)
  · exact va_getN (D := g.1) (C := RX1) (T := TX1) (N := 3) (ci := 1) hx hb hts hin hown hK hP 8 (wg_8 g X M) rfl 1 (by decide) hf (fun _ h9 => h9) rfl hd (h H locs ls hP hS hl)
theorem jg_8_2 {idx : Nat} (hκ : CF κ g own cc Ts nL rm) (hin : ∀ w ∈ wsX10, w ∈ Ts) (hf : fl κ own idx "LampRound$Judge" "tree" "LLampRound$Tree;") (hd : decode cc pc = .ok (.getfield idx, 3)) (ep : pc + 3 = pc') (h : Jw κ g nL X M lv pc' (.ref (g.2.1 7) :: st)) : Jw κ g nL X M lv pc (.ref (g.2.1 8) :: st) := by
  obtain ⟨p, l, e, R, s, m, args, below, meth, c, cells, slots, Q, A⟩ := κ
  obtain ⟨hx, hb, hml, hown, hts, hK, hN, hD, hAA, rfl, hc9, hs9, hg⟩ := hκ
  subst ep
  intro H locs ls hP hS hl
  rcases hf with hf | ⟨host, hf⟩
  · exact va_get (D := g.1) (C := RX1) (T := TX1) (N := 3) (ci := 1) hx hb hts hin hown hK hP 8 (wg_8 g X M) rfl 2 (by decide) hf (fun _ h9 => h9) rfl hd (h H locs ls hP hS hl)
  · exact va_getN (D := g.1) (C := RX1) (T := TX1) (N := 3) (ci := 1) hx hb hts hin hown hK hP 8 (wg_8 g X M) rfl 2 (by decide) hf (fun _ h9 => h9) rfl hd (h H locs ls hP hS hl)
theorem jg_9_0 {idx : Nat} (hκ : CF κ g own cc Ts nL rm) (hin : ∀ w ∈ wsX30, w ∈ Ts) (hf : fl κ own idx "LampRound$Lines" "ops" "[I") (hd : decode cc pc = .ok (.getfield idx, 3)) (ep : pc + 3 = pc') (h : Jw κ g nL X M lv pc' (.ref (g.2.1 41) :: st)) : Jw κ g nL X M lv pc (.ref (g.2.1 9) :: st) := by
  obtain ⟨p, l, e, R, s, m, args, below, meth, c, cells, slots, Q, A⟩ := κ
  obtain ⟨hx, hb, hml, hown, hts, hK, hN, hD, hAA, rfl, hc9, hs9, hg⟩ := hκ
  subst ep
  intro H locs ls hP hS hl
  rcases hf with hf | ⟨host, hf⟩
  · exact va_get (D := g.1) (C := RX3) (T := TX3) (N := 4) (ci := 3) hx hb hts hin hown hK hP 9 (wg_9 g X M) rfl 0 (by decide) hf (fun _ h9 => h9) rfl hd (h H locs ls hP hS hl)
  · exact va_getN (D := g.1) (C := RX3) (T := TX3) (N := 4) (ci := 3) hx hb hts hin hown hK hP 9 (wg_9 g X M) rfl 0 (by decide) hf (fun _ h9 => h9) rfl hd (h H locs ls hP hS hl)
theorem jg_9_1 {idx : Nat} (hκ : CF κ g own cc Ts nL rm) (hin : ∀ w ∈ wsX30, w ∈ Ts) (hf : fl κ own idx "LampRound$Lines" "as" "[I") (hd : decode cc pc = .ok (.getfield idx, 3)) (ep : pc + 3 = pc') (h : Jw κ g nL X M lv pc' (.ref (g.2.1 42) :: st)) : Jw κ g nL X M lv pc (.ref (g.2.1 9) :: st) := by
  obtain ⟨p, l, e, R, s, m, args, below, meth, c, cells, slots, Q, A⟩ := κ
  obtain ⟨hx, hb, hml, hown, hts, hK, hN, hD, hAA, rfl, hc9, hs9, hg⟩ := hκ
  subst ep
  intro H locs ls hP hS hl
  rcases hf with hf | ⟨host, hf⟩
  · exact va_get (D := g.1) (C := RX3) (T := TX3) (N := 4) (ci := 3) hx hb hts hin hown hK hP 9 (wg_9 g X M) rfl 1 (by decide) hf (fun _ h9 => h9) rfl hd (h H locs ls hP hS hl)
  · exact va_getN (D := g.1) (C := RX3) (T := TX3) (N := 4) (ci := 3) hx hb hts hin hown hK hP 9 (wg_9 g X M) rfl 1 (by decide) hf (fun _ h9 => h9) rfl hd (h H locs ls hP hS hl)
theorem jg_9_2 {idx : Nat} (hκ : CF κ g own cc Ts nL rm) (hin : ∀ w ∈ wsX30, w ∈ Ts) (hf : fl κ own idx "LampRound$Lines" "bs" "[I") (hd : decode cc pc = .ok (.getfield idx, 3)) (ep : pc + 3 = pc') (h : Jw κ g nL X M lv pc' (.ref (g.2.1 43) :: st)) : Jw κ g nL X M lv pc (.ref (g.2.1 9) :: st) := by
  obtain ⟨p, l, e, R, s, m, args, below, meth, c, cells, slots, Q, A⟩ := κ
  obtain ⟨hx, hb, hml, hown, hts, hK, hN, hD, hAA, rfl, hc9, hs9, hg⟩ := hκ
  subst ep
  intro H locs ls hP hS hl
  rcases hf with hf | ⟨host, hf⟩
  · exact va_get (D := g.1) (C := RX3) (T := TX3) (N := 4) (ci := 3) hx hb hts hin hown hK hP 9 (wg_9 g X M) rfl 2 (by decide) hf (fun _ h9 => h9) rfl hd (h H locs ls hP hS hl)
  · exact va_getN (D := g.1) (C := RX3) (T := TX3) (N := 4) (ci := 3) hx hb hts hin hown hK hP 9 (wg_9 g X M) rfl 2 (by decide) hf (fun _ h9 => h9) rfl hd (h H locs ls hP hS hl)
theorem jg_9_3 {idx : Nat} (hκ : CF κ g own cc Ts nL rm) (hin : ∀ w ∈ wsX30, w ∈ Ts) (hf : fl κ own idx "LampRound$Lines" "count" "I") (hd : decode cc pc = .ok (.getfield idx, 3)) (ep : pc + 3 = pc') (h : Jw κ g nL X M lv pc' (.int (X.1 13) :: st)) : Jw κ g nL X M lv pc (.ref (g.2.1 9) :: st) := by
  obtain ⟨p, l, e, R, s, m, args, below, meth, c, cells, slots, Q, A⟩ := κ
  obtain ⟨hx, hb, hml, hown, hts, hK, hN, hD, hAA, rfl, hc9, hs9, hg⟩ := hκ
  subst ep
  intro H locs ls hP hS hl
  rcases hf with hf | ⟨host, hf⟩
  · exact va_get (D := g.1) (C := RX3) (T := TX3) (N := 4) (ci := 3) hx hb hts hin hown hK hP 9 (wg_9 g X M) rfl 3 (by decide) hf (fun _ h9 => h9) rfl hd (h H locs ls hP hS hl)
  · exact va_getN (D := g.1) (C := RX3) (T := TX3) (N := 4) (ci := 3) hx hb hts hin hown hK hP 9 (wg_9 g X M) rfl 3 (by decide) hf (fun _ h9 => h9) rfl hd (h H locs ls hP hS hl)
theorem jp_9_3 {idx : Nat} {v : Int32} (hκ : CF κ g own cc Ts nL rm) (hin : ∀ w ∈ wsX30, w ∈ Ts) (hf : fl κ own idx "LampRound$Lines" "count" "I") (hd : decode cc pc = .ok (.putfield idx, 3)) (ep : pc + 3 = pc') (h : Jw κ g nL (ks_sI X 13 v) M lv pc' st) : Jw κ g nL X M lv pc (.int v :: .ref (g.2.1 9) :: st) := by
  obtain ⟨p, l, e, R, s, m, args, below, meth, c, cells, slots, Q, A⟩ := κ
  obtain ⟨hx, hb, hml, hown, hts, hK, hN, hD, hAA, rfl, hc9, hs9, hg⟩ := hκ
  subst ep
  intro H locs ls hP hS hl
  rcases hf with hf | ⟨host, hf⟩
  · exact va_put (D := g.1) (C := RX3) (T := TX3) (N := 4) (ci := 3) (ty := .int) hx hb hts hin tyX3 tyX3_ok nmX3 hown hK hP (hD X M) hS 9 (wg_9 g X M) rfl 3 (by decide) hf (fun _ h9 => h9) rfl (by decide +kernel) rfl rfl (Nat.le_of_ble_eq_true rfl) hd (fun H1 locs1 hP1 _ hS1 => h H1 locs1 ls (by rw [← wf_9_3]; exact hP1) hS1 hl)
  · exact va_putN (D := g.1) (C := RX3) (T := TX3) (N := 4) (ci := 3) (ty := .int) hx hb hts hin tyX3 tyX3_ok nmX3 hown hK hP (hD X M) hS 9 (wg_9 g X M) rfl 3 (by decide) hf (fun _ h9 => h9) rfl (by decide +kernel) rfl rfl (Nat.le_of_ble_eq_true rfl) hd (fun H1 locs1 hP1 _ hS1 => h H1 locs1 ls (by rw [← wf_9_3]; exact hP1) hS1 hl)
theorem jg_10_0 {idx : Nat} (hκ : CF κ g own cc Ts nL rm) (hin : ∀ w ∈ wsX30, w ∈ Ts) (hf : fl κ own idx "LampRound$Lines" "ops" "[I") (hd : decode cc pc = .ok (.getfield idx, 3)) (ep : pc + 3 = pc') (h : Jw κ g nL X M lv pc' (.ref (g.2.1 44) :: st)) : Jw κ g nL X M lv pc (.ref (g.2.1 10) :: st) := by
  obtain ⟨p, l, e, R, s, m, args, below, meth, c, cells, slots, Q, A⟩ := κ
  obtain ⟨hx, hb, hml, hown, hts, hK, hN, hD, hAA, rfl, hc9, hs9, hg⟩ := hκ
  subst ep
  intro H locs ls hP hS hl
  rcases hf with hf | ⟨host, hf⟩
  · exact va_get (D := g.1) (C := RX3) (T := TX3) (N := 4) (ci := 3) hx hb hts hin hown hK hP 10 (wg_10 g X M) rfl 0 (by decide) hf (fun _ h9 => h9) rfl hd (h H locs ls hP hS hl)
  · exact va_getN (D := g.1) (C := RX3) (T := TX3) (N := 4) (ci := 3) hx hb hts hin hown hK hP 10 (wg_10 g X M) rfl 0 (by decide) hf (fun _ h9 => h9) rfl hd (h H locs ls hP hS hl)
theorem jg_10_1 {idx : Nat} (hκ : CF κ g own cc Ts nL rm) (hin : ∀ w ∈ wsX30, w ∈ Ts) (hf : fl κ own idx "LampRound$Lines" "as" "[I") (hd : decode cc pc = .ok (.getfield idx, 3)) (ep : pc + 3 = pc') (h : Jw κ g nL X M lv pc' (.ref (g.2.1 45) :: st)) : Jw κ g nL X M lv pc (.ref (g.2.1 10) :: st) := by
  obtain ⟨p, l, e, R, s, m, args, below, meth, c, cells, slots, Q, A⟩ := κ
  obtain ⟨hx, hb, hml, hown, hts, hK, hN, hD, hAA, rfl, hc9, hs9, hg⟩ := hκ
  subst ep
  intro H locs ls hP hS hl
  rcases hf with hf | ⟨host, hf⟩
  · exact va_get (D := g.1) (C := RX3) (T := TX3) (N := 4) (ci := 3) hx hb hts hin hown hK hP 10 (wg_10 g X M) rfl 1 (by decide) hf (fun _ h9 => h9) rfl hd (h H locs ls hP hS hl)
  · exact va_getN (D := g.1) (C := RX3) (T := TX3) (N := 4) (ci := 3) hx hb hts hin hown hK hP 10 (wg_10 g X M) rfl 1 (by decide) hf (fun _ h9 => h9) rfl hd (h H locs ls hP hS hl)
theorem jg_10_2 {idx : Nat} (hκ : CF κ g own cc Ts nL rm) (hin : ∀ w ∈ wsX30, w ∈ Ts) (hf : fl κ own idx "LampRound$Lines" "bs" "[I") (hd : decode cc pc = .ok (.getfield idx, 3)) (ep : pc + 3 = pc') (h : Jw κ g nL X M lv pc' (.ref (g.2.1 46) :: st)) : Jw κ g nL X M lv pc (.ref (g.2.1 10) :: st) := by
  obtain ⟨p, l, e, R, s, m, args, below, meth, c, cells, slots, Q, A⟩ := κ
  obtain ⟨hx, hb, hml, hown, hts, hK, hN, hD, hAA, rfl, hc9, hs9, hg⟩ := hκ
  subst ep
  intro H locs ls hP hS hl
  rcases hf with hf | ⟨host, hf⟩
  · exact va_get (D := g.1) (C := RX3) (T := TX3) (N := 4) (ci := 3) hx hb hts hin hown hK hP 10 (wg_10 g X M) rfl 2 (by decide) hf (fun _ h9 => h9) rfl hd (h H locs ls hP hS hl)
  · exact va_getN (D := g.1) (C := RX3) (T := TX3) (N := 4) (ci := 3) hx hb hts hin hown hK hP 10 (wg_10 g X M) rfl 2 (by decide) hf (fun _ h9 => h9) rfl hd (h H locs ls hP hS hl)
theorem jg_10_3 {idx : Nat} (hκ : CF κ g own cc Ts nL rm) (hin : ∀ w ∈ wsX30, w ∈ Ts) (hf : fl κ own idx "LampRound$Lines" "count" "I") (hd : decode cc pc = .ok (.getfield idx, 3)) (ep : pc + 3 = pc') (h : Jw κ g nL X M lv pc' (.int (X.1 14) :: st)) : Jw κ g nL X M lv pc (.ref (g.2.1 10) :: st) := by
  obtain ⟨p, l, e, R, s, m, args, below, meth, c, cells, slots, Q, A⟩ := κ
  obtain ⟨hx, hb, hml, hown, hts, hK, hN, hD, hAA, rfl, hc9, hs9, hg⟩ := hκ
  subst ep
  intro H locs ls hP hS hl
  rcases hf with hf | ⟨host, hf⟩
  · exact va_get (D := g.1) (C := RX3) (T := TX3) (N := 4) (ci := 3) hx hb hts hin hown hK hP 10 (wg_10 g X M) rfl 3 (by decide) hf (fun _ h9 => h9) rfl hd (h H locs ls hP hS hl)
  · exact va_getN (D := g.1) (C := RX3) (T := TX3) (N := 4) (ci := 3) hx hb hts hin hown hK hP 10 (wg_10 g X M) rfl 3 (by decide) hf (fun _ h9 => h9) rfl hd (h H locs ls hP hS hl)
theorem jp_10_3 {idx : Nat} {v : Int32} (hκ : CF κ g own cc Ts nL rm) (hin : ∀ w ∈ wsX30, w ∈ Ts) (hf : fl κ own idx "LampRound$Lines" "count" "I") (hd : decode cc pc = .ok (.putfield idx, 3)) (ep : pc + 3 = pc') (h : Jw κ g nL (ks_sI X 14 v) M lv pc' st) : Jw κ g nL X M lv pc (.int v :: .ref (g.2.1 10) :: st) := by
  obtain ⟨p, l, e, R, s, m, args, below, meth, c, cells, slots, Q, A⟩ := κ
  obtain ⟨hx, hb, hml, hown, hts, hK, hN, hD, hAA, rfl, hc9, hs9, hg⟩ := hκ
  subst ep
  intro H locs ls hP hS hl
  rcases hf with hf | ⟨host, hf⟩
  · exact va_put (D := g.1) (C := RX3) (T := TX3) (N := 4) (ci := 3) (ty := .int) hx hb hts hin tyX3 tyX3_ok nmX3 hown hK hP (hD X M) hS 10 (wg_10 g X M) rfl 3 (by decide) hf (fun _ h9 => h9) rfl (by decide +kernel) rfl rfl (Nat.le_of_ble_eq_true rfl) hd (fun H1 locs1 hP1 _ hS1 => h H1 locs1 ls (by rw [← wf_10_3]; exact hP1) hS1 hl)
  · exact va_putN (D := g.1) (C := RX3) (T := TX3) (N := 4) (ci := 3) (ty := .int) hx hb hts hin tyX3 tyX3_ok nmX3 hown hK hP (hD X M) hS 10 (wg_10 g X M) rfl 3 (by decide) hf (fun _ h9 => h9) rfl (by decide +kernel) rfl rfl (Nat.le_of_ble_eq_true rfl) hd (fun H1 locs1 hP1 _ hS1 => h H1 locs1 ls (by rw [← wf_10_3]; exact hP1) hS1 hl)
theorem jg_11_0 {idx : Nat} (hκ : CF κ g own cc Ts nL rm) (hin : ∀ w ∈ wsX100, w ∈ Ts) (hf : fl κ own idx "LampRoundModel" "lanes" "I") (hd : decode cc pc = .ok (.getfield idx, 3)) (ep : pc + 3 = pc') (h : Jw κ g nL X M lv pc' (.int (M.1 15) :: st)) : Jw κ g nL X M lv pc (.ref (g.2.1 11) :: st) := by
  obtain ⟨p, l, e, R, s, m, args, below, meth, c, cells, slots, Q, A⟩ := κ
  obtain ⟨hx, hb, hml, hown, hts, hK, hN, hD, hAA, rfl, hc9, hs9, hg⟩ := hκ
  subst ep
  intro H locs ls hP hS hl
  rcases hf with hf | ⟨host, hf⟩
  · exact va_get (D := g.1) (C := RX10) (T := TX10) (N := 36) (ci := 10) hx hb hts hin hown hK hP 11 (wg_11 g X M) rfl 0 (by decide) hf (fun _ h9 => h9) rfl hd (h H locs ls hP hS hl)
  · exact va_getN (D := g.1) (C := RX10) (T := TX10) (N := 36) (ci := 10) hx hb hts hin hown hK hP 11 (wg_11 g X M) rfl 0 (by decide) hf (fun _ h9 => h9) rfl hd (h H locs ls hP hS hl)
theorem jp_11_0 {idx : Nat} {v : Int32} (hκ : CF κ g own cc Ts nL rm) (hin : ∀ w ∈ wsX100, w ∈ Ts) (hf : fl κ own idx "LampRoundModel" "lanes" "I") (hd : decode cc pc = .ok (.putfield idx, 3)) (ep : pc + 3 = pc') (h : Jw κ g nL X (ks_sI M 15 v) lv pc' st) : Jw κ g nL X M lv pc (.int v :: .ref (g.2.1 11) :: st) := by
  obtain ⟨p, l, e, R, s, m, args, below, meth, c, cells, slots, Q, A⟩ := κ
  obtain ⟨hx, hb, hml, hown, hts, hK, hN, hD, hAA, rfl, hc9, hs9, hg⟩ := hκ
  subst ep
  intro H locs ls hP hS hl
  rcases hf with hf | ⟨host, hf⟩
  · exact va_put (D := g.1) (C := RX10) (T := TX10) (N := 36) (ci := 10) (ty := .int) hx hb hts hin tyX10 tyX10_ok nmX10 hown hK hP (hD X M) hS 11 (wg_11 g X M) rfl 0 (by decide) hf (fun _ h9 => h9) rfl (by decide +kernel) rfl rfl (Nat.le_of_ble_eq_true rfl) hd (fun H1 locs1 hP1 _ hS1 => h H1 locs1 ls (by rw [← wf_11_0]; exact hP1) hS1 hl)
  · exact va_putN (D := g.1) (C := RX10) (T := TX10) (N := 36) (ci := 10) (ty := .int) hx hb hts hin tyX10 tyX10_ok nmX10 hown hK hP (hD X M) hS 11 (wg_11 g X M) rfl 0 (by decide) hf (fun _ h9 => h9) rfl (by decide +kernel) rfl rfl (Nat.le_of_ble_eq_true rfl) hd (fun H1 locs1 hP1 _ hS1 => h H1 locs1 ls (by rw [← wf_11_0]; exact hP1) hS1 hl)
theorem jg_11_1 {idx : Nat} (hκ : CF κ g own cc Ts nL rm) (hin : ∀ w ∈ wsX100, w ∈ Ts) (hf : fl κ own idx "LampRoundModel" "from" "[I") (hd : decode cc pc = .ok (.getfield idx, 3)) (ep : pc + 3 = pc') (h : Jw κ g nL X M lv pc' (.ref (g.2.1 47) :: st)) : Jw κ g nL X M lv pc (.ref (g.2.1 11) :: st) := by
  obtain ⟨p, l, e, R, s, m, args, below, meth, c, cells, slots, Q, A⟩ := κ
  obtain ⟨hx, hb, hml, hown, hts, hK, hN, hD, hAA, rfl, hc9, hs9, hg⟩ := hκ
  subst ep
  intro H locs ls hP hS hl
  rcases hf with hf | ⟨host, hf⟩
  · exact va_get (D := g.1) (C := RX10) (T := TX10) (N := 36) (ci := 10) hx hb hts hin hown hK hP 11 (wg_11 g X M) rfl 1 (by decide) hf (fun _ h9 => h9) rfl hd (h H locs ls hP hS hl)
  · exact va_getN (D := g.1) (C := RX10) (T := TX10) (N := 36) (ci := 10) hx hb hts hin hown hK hP 11 (wg_11 g X M) rfl 1 (by decide) hf (fun _ h9 => h9) rfl hd (h H locs ls hP hS hl)
theorem jg_11_2 {idx : Nat} (hκ : CF κ g own cc Ts nL rm) (hin : ∀ w ∈ wsX100, w ∈ Ts) (hf : fl κ own idx "LampRoundModel" "to" "[I") (hd : decode cc pc = .ok (.getfield idx, 3)) (ep : pc + 3 = pc') (h : Jw κ g nL X M lv pc' (.ref (g.2.1 48) :: st)) : Jw κ g nL X M lv pc (.ref (g.2.1 11) :: st) := by
  obtain ⟨p, l, e, R, s, m, args, below, meth, c, cells, slots, Q, A⟩ := κ
  obtain ⟨hx, hb, hml, hown, hts, hK, hN, hD, hAA, rfl, hc9, hs9, hg⟩ := hκ
  subst ep
  intro H locs ls hP hS hl
  rcases hf with hf | ⟨host, hf⟩
  · exact va_get (D := g.1) (C := RX10) (T := TX10) (N := 36) (ci := 10) hx hb hts hin hown hK hP 11 (wg_11 g X M) rfl 2 (by decide) hf (fun _ h9 => h9) rfl hd (h H locs ls hP hS hl)
  · exact va_getN (D := g.1) (C := RX10) (T := TX10) (N := 36) (ci := 10) hx hb hts hin hown hK hP 11 (wg_11 g X M) rfl 2 (by decide) hf (fun _ h9 => h9) rfl hd (h H locs ls hP hS hl)
theorem jg_11_3 {idx : Nat} (hκ : CF κ g own cc Ts nL rm) (hin : ∀ w ∈ wsX100, w ∈ Ts) (hf : fl κ own idx "LampRoundModel" "length" "[I") (hd : decode cc pc = .ok (.getfield idx, 3)) (ep : pc + 3 = pc') (h : Jw κ g nL X M lv pc' (.ref (g.2.1 49) :: st)) : Jw κ g nL X M lv pc (.ref (g.2.1 11) :: st) := by
  obtain ⟨p, l, e, R, s, m, args, below, meth, c, cells, slots, Q, A⟩ := κ
  obtain ⟨hx, hb, hml, hown, hts, hK, hN, hD, hAA, rfl, hc9, hs9, hg⟩ := hκ
  subst ep
  intro H locs ls hP hS hl
  rcases hf with hf | ⟨host, hf⟩
  · exact va_get (D := g.1) (C := RX10) (T := TX10) (N := 36) (ci := 10) hx hb hts hin hown hK hP 11 (wg_11 g X M) rfl 3 (by decide) hf (fun _ h9 => h9) rfl hd (h H locs ls hP hS hl)
  · exact va_getN (D := g.1) (C := RX10) (T := TX10) (N := 36) (ci := 10) hx hb hts hin hown hK hP 11 (wg_11 g X M) rfl 3 (by decide) hf (fun _ h9 => h9) rfl hd (h H locs ls hP hS hl)
theorem jg_11_4 {idx : Nat} (hκ : CF κ g own cc Ts nL rm) (hin : ∀ w ∈ wsX100, w ∈ Ts) (hf : fl κ own idx "LampRoundModel" "isOpen" "[Z") (hd : decode cc pc = .ok (.getfield idx, 3)) (ep : pc + 3 = pc') (h : Jw κ g nL X M lv pc' (.ref (g.2.1 50) :: st)) : Jw κ g nL X M lv pc (.ref (g.2.1 11) :: st) := by
  obtain ⟨p, l, e, R, s, m, args, below, meth, c, cells, slots, Q, A⟩ := κ
  obtain ⟨hx, hb, hml, hown, hts, hK, hN, hD, hAA, rfl, hc9, hs9, hg⟩ := hκ
  subst ep
  intro H locs ls hP hS hl
  rcases hf with hf | ⟨host, hf⟩
  · exact va_get (D := g.1) (C := RX10) (T := TX10) (N := 36) (ci := 10) hx hb hts hin hown hK hP 11 (wg_11 g X M) rfl 4 (by decide) hf (fun _ h9 => h9) rfl hd (h H locs ls hP hS hl)
  · exact va_getN (D := g.1) (C := RX10) (T := TX10) (N := 36) (ci := 10) hx hb hts hin hown hK hP 11 (wg_11 g X M) rfl 4 (by decide) hf (fun _ h9 => h9) rfl hd (h H locs ls hP hS hl)
theorem jg_11_5 {idx : Nat} (hκ : CF κ g own cc Ts nL rm) (hin : ∀ w ∈ wsX100, w ∈ Ts) (hf : fl κ own idx "LampRoundModel" "rowKind" "[I") (hd : decode cc pc = .ok (.getfield idx, 3)) (ep : pc + 3 = pc') (h : Jw κ g nL X M lv pc' (.ref (g.2.1 51) :: st)) : Jw κ g nL X M lv pc (.ref (g.2.1 11) :: st) := by
  obtain ⟨p, l, e, R, s, m, args, below, meth, c, cells, slots, Q, A⟩ := κ
  obtain ⟨hx, hb, hml, hown, hts, hK, hN, hD, hAA, rfl, hc9, hs9, hg⟩ := hκ
  subst ep
  intro H locs ls hP hS hl
  rcases hf with hf | ⟨host, hf⟩
  · exact va_get (D := g.1) (C := RX10) (T := TX10) (N := 36) (ci := 10) hx hb hts hin hown hK hP 11 (wg_11 g X M) rfl 5 (by decide) hf (fun _ h9 => h9) rfl hd (h H locs ls hP hS hl)
  · exact va_getN (D := g.1) (C := RX10) (T := TX10) (N := 36) (ci := 10) hx hb hts hin hown hK hP 11 (wg_11 g X M) rfl 5 (by decide) hf (fun _ h9 => h9) rfl hd (h H locs ls hP hS hl)
theorem jg_11_6 {idx : Nat} (hκ : CF κ g own cc Ts nL rm) (hin : ∀ w ∈ wsX100, w ∈ Ts) (hf : fl κ own idx "LampRoundModel" "rowSize" "[I") (hd : decode cc pc = .ok (.getfield idx, 3)) (ep : pc + 3 = pc') (h : Jw κ g nL X M lv pc' (.ref (g.2.1 52) :: st)) : Jw κ g nL X M lv pc (.ref (g.2.1 11) :: st) := by
  obtain ⟨p, l, e, R, s, m, args, below, meth, c, cells, slots, Q, A⟩ := κ
  obtain ⟨hx, hb, hml, hown, hts, hK, hN, hD, hAA, rfl, hc9, hs9, hg⟩ := hκ
  subst ep
  intro H locs ls hP hS hl
  rcases hf with hf | ⟨host, hf⟩
  · exact va_get (D := g.1) (C := RX10) (T := TX10) (N := 36) (ci := 10) hx hb hts hin hown hK hP 11 (wg_11 g X M) rfl 6 (by decide) hf (fun _ h9 => h9) rfl hd (h H locs ls hP hS hl)
  · exact va_getN (D := g.1) (C := RX10) (T := TX10) (N := 36) (ci := 10) hx hb hts hin hown hK hP 11 (wg_11 g X M) rfl 6 (by decide) hf (fun _ h9 => h9) rfl hd (h H locs ls hP hS hl)
theorem jg_11_7 {idx : Nat} (hκ : CF κ g own cc Ts nL rm) (hin : ∀ w ∈ wsX100, w ∈ Ts) (hf : fl κ own idx "LampRoundModel" "cell" "[J") (hd : decode cc pc = .ok (.getfield idx, 3)) (ep : pc + 3 = pc') (h : Jw κ g nL X M lv pc' (.ref (g.2.1 53) :: st)) : Jw κ g nL X M lv pc (.ref (g.2.1 11) :: st) := by
  obtain ⟨p, l, e, R, s, m, args, below, meth, c, cells, slots, Q, A⟩ := κ
  obtain ⟨hx, hb, hml, hown, hts, hK, hN, hD, hAA, rfl, hc9, hs9, hg⟩ := hκ
  subst ep
  intro H locs ls hP hS hl
  rcases hf with hf | ⟨host, hf⟩
  · exact va_get (D := g.1) (C := RX10) (T := TX10) (N := 36) (ci := 10) hx hb hts hin hown hK hP 11 (wg_11 g X M) rfl 7 (by decide) hf (fun _ h9 => h9) rfl hd (h H locs ls hP hS hl)
  · exact va_getN (D := g.1) (C := RX10) (T := TX10) (N := 36) (ci := 10) hx hb hts hin hown hK hP 11 (wg_11 g X M) rfl 7 (by decide) hf (fun _ h9 => h9) rfl hd (h H locs ls hP hS hl)
theorem jg_11_8 {idx : Nat} (hκ : CF κ g own cc Ts nL rm) (hin : ∀ w ∈ wsX100, w ∈ Ts) (hf : fl κ own idx "LampRoundModel" "ways" "[I") (hd : decode cc pc = .ok (.getfield idx, 3)) (ep : pc + 3 = pc') (h : Jw κ g nL X M lv pc' (.ref (g.2.1 54) :: st)) : Jw κ g nL X M lv pc (.ref (g.2.1 11) :: st) := by
  obtain ⟨p, l, e, R, s, m, args, below, meth, c, cells, slots, Q, A⟩ := κ
  obtain ⟨hx, hb, hml, hown, hts, hK, hN, hD, hAA, rfl, hc9, hs9, hg⟩ := hκ
  subst ep
  intro H locs ls hP hS hl
  rcases hf with hf | ⟨host, hf⟩
  · exact va_get (D := g.1) (C := RX10) (T := TX10) (N := 36) (ci := 10) hx hb hts hin hown hK hP 11 (wg_11 g X M) rfl 8 (by decide) hf (fun _ h9 => h9) rfl hd (h H locs ls hP hS hl)
  · exact va_getN (D := g.1) (C := RX10) (T := TX10) (N := 36) (ci := 10) hx hb hts hin hown hK hP 11 (wg_11 g X M) rfl 8 (by decide) hf (fun _ h9 => h9) rfl hd (h H locs ls hP hS hl)
theorem jg_11_9 {idx : Nat} (hκ : CF κ g own cc Ts nL rm) (hin : ∀ w ∈ wsX100, w ∈ Ts) (hf : fl κ own idx "LampRoundModel" "lamps" "I") (hd : decode cc pc = .ok (.getfield idx, 3)) (ep : pc + 3 = pc') (h : Jw κ g nL X M lv pc' (.int (M.1 16) :: st)) : Jw κ g nL X M lv pc (.ref (g.2.1 11) :: st) := by
  obtain ⟨p, l, e, R, s, m, args, below, meth, c, cells, slots, Q, A⟩ := κ
  obtain ⟨hx, hb, hml, hown, hts, hK, hN, hD, hAA, rfl, hc9, hs9, hg⟩ := hκ
  subst ep
  intro H locs ls hP hS hl
  rcases hf with hf | ⟨host, hf⟩
  · exact va_get (D := g.1) (C := RX10) (T := TX10) (N := 36) (ci := 10) hx hb hts hin hown hK hP 11 (wg_11 g X M) rfl 9 (by decide) hf (fun _ h9 => h9) rfl hd (h H locs ls hP hS hl)
  · exact va_getN (D := g.1) (C := RX10) (T := TX10) (N := 36) (ci := 10) hx hb hts hin hown hK hP 11 (wg_11 g X M) rfl 9 (by decide) hf (fun _ h9 => h9) rfl hd (h H locs ls hP hS hl)
theorem jp_11_9 {idx : Nat} {v : Int32} (hκ : CF κ g own cc Ts nL rm) (hin : ∀ w ∈ wsX100, w ∈ Ts) (hf : fl κ own idx "LampRoundModel" "lamps" "I") (hd : decode cc pc = .ok (.putfield idx, 3)) (ep : pc + 3 = pc') (h : Jw κ g nL X (ks_sI M 16 v) lv pc' st) : Jw κ g nL X M lv pc (.int v :: .ref (g.2.1 11) :: st) := by
  obtain ⟨p, l, e, R, s, m, args, below, meth, c, cells, slots, Q, A⟩ := κ
  obtain ⟨hx, hb, hml, hown, hts, hK, hN, hD, hAA, rfl, hc9, hs9, hg⟩ := hκ
  subst ep
  intro H locs ls hP hS hl
  rcases hf with hf | ⟨host, hf⟩
  · exact va_put (D := g.1) (C := RX10) (T := TX10) (N := 36) (ci := 10) (ty := .int) hx hb hts hin tyX10 tyX10_ok nmX10 hown hK hP (hD X M) hS 11 (wg_11 g X M) rfl 9 (by decide) hf (fun _ h9 => h9) rfl (by decide +kernel) rfl rfl (Nat.le_of_ble_eq_true rfl) hd (fun H1 locs1 hP1 _ hS1 => h H1 locs1 ls (by rw [← wf_11_9]; exact hP1) hS1 hl)
  · exact va_putN (D := g.1) (C := RX10) (T := TX10) (N := 36) (ci := 10) (ty := .int) hx hb hts hin tyX10 tyX10_ok nmX10 hown hK hP (hD X M) hS 11 (wg_11 g X M) rfl 9 (by decide) hf (fun _ h9 => h9) rfl (by decide +kernel) rfl rfl (Nat.le_of_ble_eq_true rfl) hd (fun H1 locs1 hP1 _ hS1 => h H1 locs1 ls (by rw [← wf_11_9]; exact hP1) hS1 hl)
theorem jg_11_10 {idx : Nat} (hκ : CF κ g own cc Ts nL rm) (hin : ∀ w ∈ wsX100, w ∈ Ts) (hf : fl κ own idx "LampRoundModel" "crossing" "[I") (hd : decode cc pc = .ok (.getfield idx, 3)) (ep : pc + 3 = pc') (h : Jw κ g nL X M lv pc' (.ref (g.2.1 55) :: st)) : Jw κ g nL X M lv pc (.ref (g.2.1 11) :: st) := by
  obtain ⟨p, l, e, R, s, m, args, below, meth, c, cells, slots, Q, A⟩ := κ
  obtain ⟨hx, hb, hml, hown, hts, hK, hN, hD, hAA, rfl, hc9, hs9, hg⟩ := hκ
  subst ep
  intro H locs ls hP hS hl
  rcases hf with hf | ⟨host, hf⟩
  · exact va_get (D := g.1) (C := RX10) (T := TX10) (N := 36) (ci := 10) hx hb hts hin hown hK hP 11 (wg_11 g X M) rfl 10 (by decide) hf (fun _ h9 => h9) rfl hd (h H locs ls hP hS hl)
  · exact va_getN (D := g.1) (C := RX10) (T := TX10) (N := 36) (ci := 10) hx hb hts hin hown hK hP 11 (wg_11 g X M) rfl 10 (by decide) hf (fun _ h9 => h9) rfl hd (h H locs ls hP hS hl)
theorem jg_11_11 {idx : Nat} (hκ : CF κ g own cc Ts nL rm) (hin : ∀ w ∈ wsX100, w ∈ Ts) (hf : fl κ own idx "LampRoundModel" "kind" "[I") (hd : decode cc pc = .ok (.getfield idx, 3)) (ep : pc + 3 = pc') (h : Jw κ g nL X M lv pc' (.ref (g.2.1 56) :: st)) : Jw κ g nL X M lv pc (.ref (g.2.1 11) :: st) := by
  obtain ⟨p, l, e, R, s, m, args, below, meth, c, cells, slots, Q, A⟩ := κ
  obtain ⟨hx, hb, hml, hown, hts, hK, hN, hD, hAA, rfl, hc9, hs9, hg⟩ := hκ
  subst ep
  intro H locs ls hP hS hl
  rcases hf with hf | ⟨host, hf⟩
  · exact va_get (D := g.1) (C := RX10) (T := TX10) (N := 36) (ci := 10) hx hb hts hin hown hK hP 11 (wg_11 g X M) rfl 11 (by decide) hf (fun _ h9 => h9) rfl hd (h H locs ls hP hS hl)
  · exact va_getN (D := g.1) (C := RX10) (T := TX10) (N := 36) (ci := 10) hx hb hts hin hown hK hP 11 (wg_11 g X M) rfl 11 (by decide) hf (fun _ h9 => h9) rfl hd (h H locs ls hP hS hl)
theorem jg_11_12 {idx : Nat} (hκ : CF κ g own cc Ts nL rm) (hin : ∀ w ∈ wsX100, w ∈ Ts) (hf : fl κ own idx "LampRoundModel" "other" "[I") (hd : decode cc pc = .ok (.getfield idx, 3)) (ep : pc + 3 = pc') (h : Jw κ g nL X M lv pc' (.ref (g.2.1 57) :: st)) : Jw κ g nL X M lv pc (.ref (g.2.1 11) :: st) := by
  obtain ⟨p, l, e, R, s, m, args, below, meth, c, cells, slots, Q, A⟩ := κ
  obtain ⟨hx, hb, hml, hown, hts, hK, hN, hD, hAA, rfl, hc9, hs9, hg⟩ := hκ
  subst ep
  intro H locs ls hP hS hl
  rcases hf with hf | ⟨host, hf⟩
  · exact va_get (D := g.1) (C := RX10) (T := TX10) (N := 36) (ci := 10) hx hb hts hin hown hK hP 11 (wg_11 g X M) rfl 12 (by decide) hf (fun _ h9 => h9) rfl hd (h H locs ls hP hS hl)
  · exact va_getN (D := g.1) (C := RX10) (T := TX10) (N := 36) (ci := 10) hx hb hts hin hown hK hP 11 (wg_11 g X M) rfl 12 (by decide) hf (fun _ h9 => h9) rfl hd (h H locs ls hP hS hl)
theorem jg_11_13 {idx : Nat} (hκ : CF κ g own cc Ts nL rm) (hin : ∀ w ∈ wsX100, w ∈ Ts) (hf : fl κ own idx "LampRoundModel" "isOut" "[Z") (hd : decode cc pc = .ok (.getfield idx, 3)) (ep : pc + 3 = pc') (h : Jw κ g nL X M lv pc' (.ref (g.2.1 58) :: st)) : Jw κ g nL X M lv pc (.ref (g.2.1 11) :: st) := by
  obtain ⟨p, l, e, R, s, m, args, below, meth, c, cells, slots, Q, A⟩ := κ
  obtain ⟨hx, hb, hml, hown, hts, hK, hN, hD, hAA, rfl, hc9, hs9, hg⟩ := hκ
  subst ep
  intro H locs ls hP hS hl
  rcases hf with hf | ⟨host, hf⟩
  · exact va_get (D := g.1) (C := RX10) (T := TX10) (N := 36) (ci := 10) hx hb hts hin hown hK hP 11 (wg_11 g X M) rfl 13 (by decide) hf (fun _ h9 => h9) rfl hd (h H locs ls hP hS hl)
  · exact va_getN (D := g.1) (C := RX10) (T := TX10) (N := 36) (ci := 10) hx hb hts hin hown hK hP 11 (wg_11 g X M) rfl 13 (by decide) hf (fun _ h9 => h9) rfl hd (h H locs ls hP hS hl)
theorem jg_11_14 {idx : Nat} (hκ : CF κ g own cc Ts nL rm) (hin : ∀ w ∈ wsX100, w ∈ Ts) (hf : fl κ own idx "LampRoundModel" "price" "[I") (hd : decode cc pc = .ok (.getfield idx, 3)) (ep : pc + 3 = pc') (h : Jw κ g nL X M lv pc' (.ref (g.2.1 59) :: st)) : Jw κ g nL X M lv pc (.ref (g.2.1 11) :: st) := by
  obtain ⟨p, l, e, R, s, m, args, below, meth, c, cells, slots, Q, A⟩ := κ
  obtain ⟨hx, hb, hml, hown, hts, hK, hN, hD, hAA, rfl, hc9, hs9, hg⟩ := hκ
  subst ep
  intro H locs ls hP hS hl
  rcases hf with hf | ⟨host, hf⟩
  · exact va_get (D := g.1) (C := RX10) (T := TX10) (N := 36) (ci := 10) hx hb hts hin hown hK hP 11 (wg_11 g X M) rfl 14 (by decide) hf (fun _ h9 => h9) rfl hd (h H locs ls hP hS hl)
  · exact va_getN (D := g.1) (C := RX10) (T := TX10) (N := 36) (ci := 10) hx hb hts hin hown hK hP 11 (wg_11 g X M) rfl 14 (by decide) hf (fun _ h9 => h9) rfl hd (h H locs ls hP hS hl)
theorem jg_11_15 {idx : Nat} (hκ : CF κ g own cc Ts nL rm) (hin : ∀ w ∈ wsX100, w ∈ Ts) (hf : fl κ own idx "LampRoundModel" "told" "I") (hd : decode cc pc = .ok (.getfield idx, 3)) (ep : pc + 3 = pc') (h : Jw κ g nL X M lv pc' (.int (M.1 17) :: st)) : Jw κ g nL X M lv pc (.ref (g.2.1 11) :: st) := by
  obtain ⟨p, l, e, R, s, m, args, below, meth, c, cells, slots, Q, A⟩ := κ
  obtain ⟨hx, hb, hml, hown, hts, hK, hN, hD, hAA, rfl, hc9, hs9, hg⟩ := hκ
  subst ep
  intro H locs ls hP hS hl
  rcases hf with hf | ⟨host, hf⟩
  · exact va_get (D := g.1) (C := RX10) (T := TX10) (N := 36) (ci := 10) hx hb hts hin hown hK hP 11 (wg_11 g X M) rfl 15 (by decide) hf (fun _ h9 => h9) rfl hd (h H locs ls hP hS hl)
  · exact va_getN (D := g.1) (C := RX10) (T := TX10) (N := 36) (ci := 10) hx hb hts hin hown hK hP 11 (wg_11 g X M) rfl 15 (by decide) hf (fun _ h9 => h9) rfl hd (h H locs ls hP hS hl)
theorem jp_11_15 {idx : Nat} {v : Int32} (hκ : CF κ g own cc Ts nL rm) (hin : ∀ w ∈ wsX100, w ∈ Ts) (hf : fl κ own idx "LampRoundModel" "told" "I") (hd : decode cc pc = .ok (.putfield idx, 3)) (ep : pc + 3 = pc') (h : Jw κ g nL X (ks_sI M 17 v) lv pc' st) : Jw κ g nL X M lv pc (.int v :: .ref (g.2.1 11) :: st) := by
  obtain ⟨p, l, e, R, s, m, args, below, meth, c, cells, slots, Q, A⟩ := κ
  obtain ⟨hx, hb, hml, hown, hts, hK, hN, hD, hAA, rfl, hc9, hs9, hg⟩ := hκ
  subst ep
  intro H locs ls hP hS hl
  rcases hf with hf | ⟨host, hf⟩
  · exact va_put (D := g.1) (C := RX10) (T := TX10) (N := 36) (ci := 10) (ty := .int) hx hb hts hin tyX10 tyX10_ok nmX10 hown hK hP (hD X M) hS 11 (wg_11 g X M) rfl 15 (by decide) hf (fun _ h9 => h9) rfl (by decide +kernel) rfl rfl (Nat.le_of_ble_eq_true rfl) hd (fun H1 locs1 hP1 _ hS1 => h H1 locs1 ls (by rw [← wf_11_15]; exact hP1) hS1 hl)
  · exact va_putN (D := g.1) (C := RX10) (T := TX10) (N := 36) (ci := 10) (ty := .int) hx hb hts hin tyX10 tyX10_ok nmX10 hown hK hP (hD X M) hS 11 (wg_11 g X M) rfl 15 (by decide) hf (fun _ h9 => h9) rfl (by decide +kernel) rfl rfl (Nat.le_of_ble_eq_true rfl) hd (fun H1 locs1 hP1 _ hS1 => h H1 locs1 ls (by rw [← wf_11_15]; exact hP1) hS1 hl)
theorem jg_11_16 {idx : Nat} (hκ : CF κ g own cc Ts nL rm) (hin : ∀ w ∈ wsX100, w ∈ Ts) (hf : fl κ own idx "LampRoundModel" "round" "[I") (hd : decode cc pc = .ok (.getfield idx, 3)) (ep : pc + 3 = pc') (h : Jw κ g nL X M lv pc' (.ref (g.2.1 60) :: st)) : Jw κ g nL X M lv pc (.ref (g.2.1 11) :: st) := by
  obtain ⟨p, l, e, R, s, m, args, below, meth, c, cells, slots, Q, A⟩ := κ
  obtain ⟨hx, hb, hml, hown, hts, hK, hN, hD, hAA, rfl, hc9, hs9, hg⟩ := hκ
  subst ep
  intro H locs ls hP hS hl
  rcases hf with hf | ⟨host, hf⟩
  · exact va_get (D := g.1) (C := RX10) (T := TX10) (N := 36) (ci := 10) hx hb hts hin hown hK hP 11 (wg_11 g X M) rfl 16 (by decide) hf (fun _ h9 => h9) rfl hd (h H locs ls hP hS hl)
  · exact va_getN (D := g.1) (C := RX10) (T := TX10) (N := 36) (ci := 10) hx hb hts hin hown hK hP 11 (wg_11 g X M) rfl 16 (by decide) hf (fun _ h9 => h9) rfl hd (h H locs ls hP hS hl)
theorem jg_11_17 {idx : Nat} (hκ : CF κ g own cc Ts nL rm) (hin : ∀ w ∈ wsX100, w ∈ Ts) (hf : fl κ own idx "LampRoundModel" "lines" "I") (hd : decode cc pc = .ok (.getfield idx, 3)) (ep : pc + 3 = pc') (h : Jw κ g nL X M lv pc' (.int (M.1 18) :: st)) : Jw κ g nL X M lv pc (.ref (g.2.1 11) :: st) := by
  obtain ⟨p, l, e, R, s, m, args, below, meth, c, cells, slots, Q, A⟩ := κ
  obtain ⟨hx, hb, hml, hown, hts, hK, hN, hD, hAA, rfl, hc9, hs9, hg⟩ := hκ
  subst ep
  intro H locs ls hP hS hl
  rcases hf with hf | ⟨host, hf⟩
  · exact va_get (D := g.1) (C := RX10) (T := TX10) (N := 36) (ci := 10) hx hb hts hin hown hK hP 11 (wg_11 g X M) rfl 17 (by decide) hf (fun _ h9 => h9) rfl hd (h H locs ls hP hS hl)
  · exact va_getN (D := g.1) (C := RX10) (T := TX10) (N := 36) (ci := 10) hx hb hts hin hown hK hP 11 (wg_11 g X M) rfl 17 (by decide) hf (fun _ h9 => h9) rfl hd (h H locs ls hP hS hl)
theorem jp_11_17 {idx : Nat} {v : Int32} (hκ : CF κ g own cc Ts nL rm) (hin : ∀ w ∈ wsX100, w ∈ Ts) (hf : fl κ own idx "LampRoundModel" "lines" "I") (hd : decode cc pc = .ok (.putfield idx, 3)) (ep : pc + 3 = pc') (h : Jw κ g nL X (ks_sI M 18 v) lv pc' st) : Jw κ g nL X M lv pc (.int v :: .ref (g.2.1 11) :: st) := by
  obtain ⟨p, l, e, R, s, m, args, below, meth, c, cells, slots, Q, A⟩ := κ
  obtain ⟨hx, hb, hml, hown, hts, hK, hN, hD, hAA, rfl, hc9, hs9, hg⟩ := hκ
  subst ep
  intro H locs ls hP hS hl
  rcases hf with hf | ⟨host, hf⟩
  · exact va_put (D := g.1) (C := RX10) (T := TX10) (N := 36) (ci := 10) (ty := .int) hx hb hts hin tyX10 tyX10_ok nmX10 hown hK hP (hD X M) hS 11 (wg_11 g X M) rfl 17 (by decide) hf (fun _ h9 => h9) rfl (by decide +kernel) rfl rfl (Nat.le_of_ble_eq_true rfl) hd (fun H1 locs1 hP1 _ hS1 => h H1 locs1 ls (by rw [← wf_11_17]; exact hP1) hS1 hl)
  · exact va_putN (D := g.1) (C := RX10) (T := TX10) (N := 36) (ci := 10) (ty := .int) hx hb hts hin tyX10 tyX10_ok nmX10 hown hK hP (hD X M) hS 11 (wg_11 g X M) rfl 17 (by decide) hf (fun _ h9 => h9) rfl (by decide +kernel) rfl rfl (Nat.le_of_ble_eq_true rfl) hd (fun H1 locs1 hP1 _ hS1 => h H1 locs1 ls (by rw [← wf_11_17]; exact hP1) hS1 hl)
theorem jg_11_18 {idx : Nat} (hκ : CF κ g own cc Ts nL rm) (hin : ∀ w ∈ wsX100, w ∈ Ts) (hf : fl κ own idx "LampRoundModel" "op" "[I") (hd : decode cc pc = .ok (.getfield idx, 3)) (ep : pc + 3 = pc') (h : Jw κ g nL X M lv pc' (.ref (g.2.1 61) :: st)) : Jw κ g nL X M lv pc (.ref (g.2.1 11) :: st) := by
  obtain ⟨p, l, e, R, s, m, args, below, meth, c, cells, slots, Q, A⟩ := κ
  obtain ⟨hx, hb, hml, hown, hts, hK, hN, hD, hAA, rfl, hc9, hs9, hg⟩ := hκ
  subst ep
  intro H locs ls hP hS hl
  rcases hf with hf | ⟨host, hf⟩
  · exact va_get (D := g.1) (C := RX10) (T := TX10) (N := 36) (ci := 10) hx hb hts hin hown hK hP 11 (wg_11 g X M) rfl 18 (by decide) hf (fun _ h9 => h9) rfl hd (h H locs ls hP hS hl)
  · exact va_getN (D := g.1) (C := RX10) (T := TX10) (N := 36) (ci := 10) hx hb hts hin hown hK hP 11 (wg_11 g X M) rfl 18 (by decide) hf (fun _ h9 => h9) rfl hd (h H locs ls hP hS hl)
theorem jg_11_19 {idx : Nat} (hκ : CF κ g own cc Ts nL rm) (hin : ∀ w ∈ wsX100, w ∈ Ts) (hf : fl κ own idx "LampRoundModel" "left" "[I") (hd : decode cc pc = .ok (.getfield idx, 3)) (ep : pc + 3 = pc') (h : Jw κ g nL X M lv pc' (.ref (g.2.1 62) :: st)) : Jw κ g nL X M lv pc (.ref (g.2.1 11) :: st) := by
  obtain ⟨p, l, e, R, s, m, args, below, meth, c, cells, slots, Q, A⟩ := κ
  obtain ⟨hx, hb, hml, hown, hts, hK, hN, hD, hAA, rfl, hc9, hs9, hg⟩ := hκ
  subst ep
  intro H locs ls hP hS hl
  rcases hf with hf | ⟨host, hf⟩
  · exact va_get (D := g.1) (C := RX10) (T := TX10) (N := 36) (ci := 10) hx hb hts hin hown hK hP 11 (wg_11 g X M) rfl 19 (by decide) hf (fun _ h9 => h9) rfl hd (h H locs ls hP hS hl)
  · exact va_getN (D := g.1) (C := RX10) (T := TX10) (N := 36) (ci := 10) hx hb hts hin hown hK hP 11 (wg_11 g X M) rfl 19 (by decide) hf (fun _ h9 => h9) rfl hd (h H locs ls hP hS hl)
theorem jg_11_20 {idx : Nat} (hκ : CF κ g own cc Ts nL rm) (hin : ∀ w ∈ wsX100, w ∈ Ts) (hf : fl κ own idx "LampRoundModel" "right" "[I") (hd : decode cc pc = .ok (.getfield idx, 3)) (ep : pc + 3 = pc') (h : Jw κ g nL X M lv pc' (.ref (g.2.1 63) :: st)) : Jw κ g nL X M lv pc (.ref (g.2.1 11) :: st) := by
  obtain ⟨p, l, e, R, s, m, args, below, meth, c, cells, slots, Q, A⟩ := κ
  obtain ⟨hx, hb, hml, hown, hts, hK, hN, hD, hAA, rfl, hc9, hs9, hg⟩ := hκ
  subst ep
  intro H locs ls hP hS hl
  rcases hf with hf | ⟨host, hf⟩
  · exact va_get (D := g.1) (C := RX10) (T := TX10) (N := 36) (ci := 10) hx hb hts hin hown hK hP 11 (wg_11 g X M) rfl 20 (by decide) hf (fun _ h9 => h9) rfl hd (h H locs ls hP hS hl)
  · exact va_getN (D := g.1) (C := RX10) (T := TX10) (N := 36) (ci := 10) hx hb hts hin hown hK hP 11 (wg_11 g X M) rfl 20 (by decide) hf (fun _ h9 => h9) rfl hd (h H locs ls hP hS hl)
theorem jg_11_21 {idx : Nat} (hκ : CF κ g own cc Ts nL rm) (hin : ∀ w ∈ wsX100, w ∈ Ts) (hf : fl κ own idx "LampRoundModel" "order" "[I") (hd : decode cc pc = .ok (.getfield idx, 3)) (ep : pc + 3 = pc') (h : Jw κ g nL X M lv pc' (.ref (g.2.1 64) :: st)) : Jw κ g nL X M lv pc (.ref (g.2.1 11) :: st) := by
  obtain ⟨p, l, e, R, s, m, args, below, meth, c, cells, slots, Q, A⟩ := κ
  obtain ⟨hx, hb, hml, hown, hts, hK, hN, hD, hAA, rfl, hc9, hs9, hg⟩ := hκ
  subst ep
  intro H locs ls hP hS hl
  rcases hf with hf | ⟨host, hf⟩
  · exact va_get (D := g.1) (C := RX10) (T := TX10) (N := 36) (ci := 10) hx hb hts hin hown hK hP 11 (wg_11 g X M) rfl 21 (by decide) hf (fun _ h9 => h9) rfl hd (h H locs ls hP hS hl)
  · exact va_getN (D := g.1) (C := RX10) (T := TX10) (N := 36) (ci := 10) hx hb hts hin hown hK hP 11 (wg_11 g X M) rfl 21 (by decide) hf (fun _ h9 => h9) rfl hd (h H locs ls hP hS hl)
theorem jg_11_22 {idx : Nat} (hκ : CF κ g own cc Ts nL rm) (hin : ∀ w ∈ wsX100, w ∈ Ts) (hf : fl κ own idx "LampRoundModel" "best" "[I") (hd : decode cc pc = .ok (.getfield idx, 3)) (ep : pc + 3 = pc') (h : Jw κ g nL X M lv pc' (.ref (g.2.1 65) :: st)) : Jw κ g nL X M lv pc (.ref (g.2.1 11) :: st) := by
  obtain ⟨p, l, e, R, s, m, args, below, meth, c, cells, slots, Q, A⟩ := κ
  obtain ⟨hx, hb, hml, hown, hts, hK, hN, hD, hAA, rfl, hc9, hs9, hg⟩ := hκ
  subst ep
  intro H locs ls hP hS hl
  rcases hf with hf | ⟨host, hf⟩
  · exact va_get (D := g.1) (C := RX10) (T := TX10) (N := 36) (ci := 10) hx hb hts hin hown hK hP 11 (wg_11 g X M) rfl 22 (by decide) hf (fun _ h9 => h9) rfl hd (h H locs ls hP hS hl)
  · exact va_getN (D := g.1) (C := RX10) (T := TX10) (N := 36) (ci := 10) hx hb hts hin hown hK hP 11 (wg_11 g X M) rfl 22 (by decide) hf (fun _ h9 => h9) rfl hd (h H locs ls hP hS hl)
theorem jg_11_23 {idx : Nat} (hκ : CF κ g own cc Ts nL rm) (hin : ∀ w ∈ wsX100, w ∈ Ts) (hf : fl κ own idx "LampRoundModel" "written" "[I") (hd : decode cc pc = .ok (.getfield idx, 3)) (ep : pc + 3 = pc') (h : Jw κ g nL X M lv pc' (.ref (g.2.1 66) :: st)) : Jw κ g nL X M lv pc (.ref (g.2.1 11) :: st) := by
  obtain ⟨p, l, e, R, s, m, args, below, meth, c, cells, slots, Q, A⟩ := κ
  obtain ⟨hx, hb, hml, hown, hts, hK, hN, hD, hAA, rfl, hc9, hs9, hg⟩ := hκ
  subst ep
  intro H locs ls hP hS hl
  rcases hf with hf | ⟨host, hf⟩
  · exact va_get (D := g.1) (C := RX10) (T := TX10) (N := 36) (ci := 10) hx hb hts hin hown hK hP 11 (wg_11 g X M) rfl 23 (by decide) hf (fun _ h9 => h9) rfl hd (h H locs ls hP hS hl)
  · exact va_getN (D := g.1) (C := RX10) (T := TX10) (N := 36) (ci := 10) hx hb hts hin hown hK hP 11 (wg_11 g X M) rfl 23 (by decide) hf (fun _ h9 => h9) rfl hd (h H locs ls hP hS hl)
theorem jg_11_24 {idx : Nat} (hκ : CF κ g own cc Ts nL rm) (hin : ∀ w ∈ wsX100, w ∈ Ts) (hf : fl κ own idx "LampRoundModel" "pairs" "[I") (hd : decode cc pc = .ok (.getfield idx, 3)) (ep : pc + 3 = pc') (h : Jw κ g nL X M lv pc' (.ref (g.2.1 67) :: st)) : Jw κ g nL X M lv pc (.ref (g.2.1 11) :: st) := by
  obtain ⟨p, l, e, R, s, m, args, below, meth, c, cells, slots, Q, A⟩ := κ
  obtain ⟨hx, hb, hml, hown, hts, hK, hN, hD, hAA, rfl, hc9, hs9, hg⟩ := hκ
  subst ep
  intro H locs ls hP hS hl
  rcases hf with hf | ⟨host, hf⟩
  · exact va_get (D := g.1) (C := RX10) (T := TX10) (N := 36) (ci := 10) hx hb hts hin hown hK hP 11 (wg_11 g X M) rfl 24 (by decide) hf (fun _ h9 => h9) rfl hd (h H locs ls hP hS hl)
  · exact va_getN (D := g.1) (C := RX10) (T := TX10) (N := 36) (ci := 10) hx hb hts hin hown hK hP 11 (wg_11 g X M) rfl 24 (by decide) hf (fun _ h9 => h9) rfl hd (h H locs ls hP hS hl)
theorem jg_11_25 {idx : Nat} (hκ : CF κ g own cc Ts nL rm) (hin : ∀ w ∈ wsX100, w ∈ Ts) (hf : fl κ own idx "LampRoundModel" "hang" "[I") (hd : decode cc pc = .ok (.getfield idx, 3)) (ep : pc + 3 = pc') (h : Jw κ g nL X M lv pc' (.ref (g.2.1 68) :: st)) : Jw κ g nL X M lv pc (.ref (g.2.1 11) :: st) := by
  obtain ⟨p, l, e, R, s, m, args, below, meth, c, cells, slots, Q, A⟩ := κ
  obtain ⟨hx, hb, hml, hown, hts, hK, hN, hD, hAA, rfl, hc9, hs9, hg⟩ := hκ
  subst ep
  intro H locs ls hP hS hl
  rcases hf with hf | ⟨host, hf⟩
  · exact va_get (D := g.1) (C := RX10) (T := TX10) (N := 36) (ci := 10) hx hb hts hin hown hK hP 11 (wg_11 g X M) rfl 25 (by decide) hf (fun _ h9 => h9) rfl hd (h H locs ls hP hS hl)
  · exact va_getN (D := g.1) (C := RX10) (T := TX10) (N := 36) (ci := 10) hx hb hts hin hown hK hP 11 (wg_11 g X M) rfl 25 (by decide) hf (fun _ h9 => h9) rfl hd (h H locs ls hP hS hl)
theorem jg_11_26 {idx : Nat} (hκ : CF κ g own cc Ts nL rm) (hin : ∀ w ∈ wsX100, w ∈ Ts) (hf : fl κ own idx "LampRoundModel" "takenPair" "[I") (hd : decode cc pc = .ok (.getfield idx, 3)) (ep : pc + 3 = pc') (h : Jw κ g nL X M lv pc' (.ref (g.2.1 69) :: st)) : Jw κ g nL X M lv pc (.ref (g.2.1 11) :: st) := by
  obtain ⟨p, l, e, R, s, m, args, below, meth, c, cells, slots, Q, A⟩ := κ
  obtain ⟨hx, hb, hml, hown, hts, hK, hN, hD, hAA, rfl, hc9, hs9, hg⟩ := hκ
  subst ep
  intro H locs ls hP hS hl
  rcases hf with hf | ⟨host, hf⟩
  · exact va_get (D := g.1) (C := RX10) (T := TX10) (N := 36) (ci := 10) hx hb hts hin hown hK hP 11 (wg_11 g X M) rfl 26 (by decide) hf (fun _ h9 => h9) rfl hd (h H locs ls hP hS hl)
  · exact va_getN (D := g.1) (C := RX10) (T := TX10) (N := 36) (ci := 10) hx hb hts hin hown hK hP 11 (wg_11 g X M) rfl 26 (by decide) hf (fun _ h9 => h9) rfl hd (h H locs ls hP hS hl)
theorem jg_11_27 {idx : Nat} (hκ : CF κ g own cc Ts nL rm) (hin : ∀ w ∈ wsX100, w ∈ Ts) (hf : fl κ own idx "LampRoundModel" "taken" "I") (hd : decode cc pc = .ok (.getfield idx, 3)) (ep : pc + 3 = pc') (h : Jw κ g nL X M lv pc' (.int (M.1 19) :: st)) : Jw κ g nL X M lv pc (.ref (g.2.1 11) :: st) := by
  obtain ⟨p, l, e, R, s, m, args, below, meth, c, cells, slots, Q, A⟩ := κ
  obtain ⟨hx, hb, hml, hown, hts, hK, hN, hD, hAA, rfl, hc9, hs9, hg⟩ := hκ
  subst ep
  intro H locs ls hP hS hl
  rcases hf with hf | ⟨host, hf⟩
  · exact va_get (D := g.1) (C := RX10) (T := TX10) (N := 36) (ci := 10) hx hb hts hin hown hK hP 11 (wg_11 g X M) rfl 27 (by decide) hf (fun _ h9 => h9) rfl hd (h H locs ls hP hS hl)
  · exact va_getN (D := g.1) (C := RX10) (T := TX10) (N := 36) (ci := 10) hx hb hts hin hown hK hP 11 (wg_11 g X M) rfl 27 (by decide) hf (fun _ h9 => h9) rfl hd (h H locs ls hP hS hl)
theorem jp_11_27 {idx : Nat} {v : Int32} (hκ : CF κ g own cc Ts nL rm) (hin : ∀ w ∈ wsX100, w ∈ Ts) (hf : fl κ own idx "LampRoundModel" "taken" "I") (hd : decode cc pc = .ok (.putfield idx, 3)) (ep : pc + 3 = pc') (h : Jw κ g nL X (ks_sI M 19 v) lv pc' st) : Jw κ g nL X M lv pc (.int v :: .ref (g.2.1 11) :: st) := by
  obtain ⟨p, l, e, R, s, m, args, below, meth, c, cells, slots, Q, A⟩ := κ
  obtain ⟨hx, hb, hml, hown, hts, hK, hN, hD, hAA, rfl, hc9, hs9, hg⟩ := hκ
  subst ep
  intro H locs ls hP hS hl
  rcases hf with hf | ⟨host, hf⟩
  · exact va_put (D := g.1) (C := RX10) (T := TX10) (N := 36) (ci := 10) (ty := .int) hx hb hts hin tyX10 tyX10_ok nmX10 hown hK hP (hD X M) hS 11 (wg_11 g X M) rfl 27 (by decide) hf (fun _ h9 => h9) rfl (by decide +kernel) rfl rfl (Nat.le_of_ble_eq_true rfl) hd (fun H1 locs1 hP1 _ hS1 => h H1 locs1 ls (by rw [← wf_11_27]; exact hP1) hS1 hl)
  · exact va_putN (D := g.1) (C := RX10) (T := TX10) (N := 36) (ci := 10) (ty := .int) hx hb hts hin tyX10 tyX10_ok nmX10 hown hK hP (hD X M) hS 11 (wg_11 g X M) rfl 27 (by decide) hf (fun _ h9 => h9) rfl (by decide +kernel) rfl rfl (Nat.le_of_ble_eq_true rfl) hd (fun H1 locs1 hP1 _ hS1 => h H1 locs1 ls (by rw [← wf_11_27]; exact hP1) hS1 hl)
theorem jg_11_28 {idx : Nat} (hκ : CF κ g own cc Ts nL rm) (hin : ∀ w ∈ wsX100, w ∈ Ts) (hf : fl κ own idx "LampRoundModel" "isTaken" "[Z") (hd : decode cc pc = .ok (.getfield idx, 3)) (ep : pc + 3 = pc') (h : Jw κ g nL X M lv pc' (.ref (g.2.1 70) :: st)) : Jw κ g nL X M lv pc (.ref (g.2.1 11) :: st) := by
  obtain ⟨p, l, e, R, s, m, args, below, meth, c, cells, slots, Q, A⟩ := κ
  obtain ⟨hx, hb, hml, hown, hts, hK, hN, hD, hAA, rfl, hc9, hs9, hg⟩ := hκ
  subst ep
  intro H locs ls hP hS hl
  rcases hf with hf | ⟨host, hf⟩
  · exact va_get (D := g.1) (C := RX10) (T := TX10) (N := 36) (ci := 10) hx hb hts hin hown hK hP 11 (wg_11 g X M) rfl 28 (by decide) hf (fun _ h9 => h9) rfl hd (h H locs ls hP hS hl)
  · exact va_getN (D := g.1) (C := RX10) (T := TX10) (N := 36) (ci := 10) hx hb hts hin hown hK hP 11 (wg_11 g X M) rfl 28 (by decide) hf (fun _ h9 => h9) rfl hd (h H locs ls hP hS hl)
theorem jg_11_29 {idx : Nat} (hκ : CF κ g own cc Ts nL rm) (hin : ∀ w ∈ wsX100, w ∈ Ts) (hf : fl κ own idx "LampRoundModel" "waiting" "[I") (hd : decode cc pc = .ok (.getfield idx, 3)) (ep : pc + 3 = pc') (h : Jw κ g nL X M lv pc' (.ref (g.2.1 71) :: st)) : Jw κ g nL X M lv pc (.ref (g.2.1 11) :: st) := by
  obtain ⟨p, l, e, R, s, m, args, below, meth, c, cells, slots, Q, A⟩ := κ
  obtain ⟨hx, hb, hml, hown, hts, hK, hN, hD, hAA, rfl, hc9, hs9, hg⟩ := hκ
  subst ep
  intro H locs ls hP hS hl
  rcases hf with hf | ⟨host, hf⟩
  · exact va_get (D := g.1) (C := RX10) (T := TX10) (N := 36) (ci := 10) hx hb hts hin hown hK hP 11 (wg_11 g X M) rfl 29 (by decide) hf (fun _ h9 => h9) rfl hd (h H locs ls hP hS hl)
  · exact va_getN (D := g.1) (C := RX10) (T := TX10) (N := 36) (ci := 10) hx hb hts hin hown hK hP 11 (wg_11 g X M) rfl 29 (by decide) hf (fun _ h9 => h9) rfl hd (h H locs ls hP hS hl)
theorem jg_11_30 {idx : Nat} (hκ : CF κ g own cc Ts nL rm) (hin : ∀ w ∈ wsX100, w ∈ Ts) (hf : fl κ own idx "LampRoundModel" "waits" "I") (hd : decode cc pc = .ok (.getfield idx, 3)) (ep : pc + 3 = pc') (h : Jw κ g nL X M lv pc' (.int (M.1 20) :: st)) : Jw κ g nL X M lv pc (.ref (g.2.1 11) :: st) := by
  obtain ⟨p, l, e, R, s, m, args, below, meth, c, cells, slots, Q, A⟩ := κ
  obtain ⟨hx, hb, hml, hown, hts, hK, hN, hD, hAA, rfl, hc9, hs9, hg⟩ := hκ
  subst ep
  intro H locs ls hP hS hl
  rcases hf with hf | ⟨host, hf⟩
  · exact va_get (D := g.1) (C := RX10) (T := TX10) (N := 36) (ci := 10) hx hb hts hin hown hK hP 11 (wg_11 g X M) rfl 30 (by decide) hf (fun _ h9 => h9) rfl hd (h H locs ls hP hS hl)
  · exact va_getN (D := g.1) (C := RX10) (T := TX10) (N := 36) (ci := 10) hx hb hts hin hown hK hP 11 (wg_11 g X M) rfl 30 (by decide) hf (fun _ h9 => h9) rfl hd (h H locs ls hP hS hl)
theorem jp_11_30 {idx : Nat} {v : Int32} (hκ : CF κ g own cc Ts nL rm) (hin : ∀ w ∈ wsX100, w ∈ Ts) (hf : fl κ own idx "LampRoundModel" "waits" "I") (hd : decode cc pc = .ok (.putfield idx, 3)) (ep : pc + 3 = pc') (h : Jw κ g nL X (ks_sI M 20 v) lv pc' st) : Jw κ g nL X M lv pc (.int v :: .ref (g.2.1 11) :: st) := by
  obtain ⟨p, l, e, R, s, m, args, below, meth, c, cells, slots, Q, A⟩ := κ
  obtain ⟨hx, hb, hml, hown, hts, hK, hN, hD, hAA, rfl, hc9, hs9, hg⟩ := hκ
  subst ep
  intro H locs ls hP hS hl
  rcases hf with hf | ⟨host, hf⟩
  · exact va_put (D := g.1) (C := RX10) (T := TX10) (N := 36) (ci := 10) (ty := .int) hx hb hts hin tyX10 tyX10_ok nmX10 hown hK hP (hD X M) hS 11 (wg_11 g X M) rfl 30 (by decide) hf (fun _ h9 => h9) rfl (by decide +kernel) rfl rfl (Nat.le_of_ble_eq_true rfl) hd (fun H1 locs1 hP1 _ hS1 => h H1 locs1 ls (by rw [← wf_11_30]; exact hP1) hS1 hl)
  · exact va_putN (D := g.1) (C := RX10) (T := TX10) (N := 36) (ci := 10) (ty := .int) hx hb hts hin tyX10 tyX10_ok nmX10 hown hK hP (hD X M) hS 11 (wg_11 g X M) rfl 30 (by decide) hf (fun _ h9 => h9) rfl (by decide +kernel) rfl rfl (Nat.le_of_ble_eq_true rfl) hd (fun H1 locs1 hP1 _ hS1 => h H1 locs1 ls (by rw [← wf_11_30]; exact hP1) hS1 hl)
theorem jg_11_31 {idx : Nat} (hκ : CF κ g own cc Ts nL rm) (hin : ∀ w ∈ wsX100, w ∈ Ts) (hf : fl κ own idx "LampRoundModel" "ring" "[Z") (hd : decode cc pc = .ok (.getfield idx, 3)) (ep : pc + 3 = pc') (h : Jw κ g nL X M lv pc' (.ref (g.2.1 72) :: st)) : Jw κ g nL X M lv pc (.ref (g.2.1 11) :: st) := by
  obtain ⟨p, l, e, R, s, m, args, below, meth, c, cells, slots, Q, A⟩ := κ
  obtain ⟨hx, hb, hml, hown, hts, hK, hN, hD, hAA, rfl, hc9, hs9, hg⟩ := hκ
  subst ep
  intro H locs ls hP hS hl
  rcases hf with hf | ⟨host, hf⟩
  · exact va_get (D := g.1) (C := RX10) (T := TX10) (N := 36) (ci := 10) hx hb hts hin hown hK hP 11 (wg_11 g X M) rfl 31 (by decide) hf (fun _ h9 => h9) rfl hd (h H locs ls hP hS hl)
  · exact va_getN (D := g.1) (C := RX10) (T := TX10) (N := 36) (ci := 10) hx hb hts hin hown hK hP 11 (wg_11 g X M) rfl 31 (by decide) hf (fun _ h9 => h9) rfl hd (h H locs ls hP hS hl)
theorem jg_11_32 {idx : Nat} (hκ : CF κ g own cc Ts nL rm) (hin : ∀ w ∈ wsX100, w ∈ Ts) (hf : fl κ own idx "LampRoundModel" "newOp" "[I") (hd : decode cc pc = .ok (.getfield idx, 3)) (ep : pc + 3 = pc') (h : Jw κ g nL X M lv pc' (.ref (g.2.1 73) :: st)) : Jw κ g nL X M lv pc (.ref (g.2.1 11) :: st) := by
  obtain ⟨p, l, e, R, s, m, args, below, meth, c, cells, slots, Q, A⟩ := κ
  obtain ⟨hx, hb, hml, hown, hts, hK, hN, hD, hAA, rfl, hc9, hs9, hg⟩ := hκ
  subst ep
  intro H locs ls hP hS hl
  rcases hf with hf | ⟨host, hf⟩
  · exact va_get (D := g.1) (C := RX10) (T := TX10) (N := 36) (ci := 10) hx hb hts hin hown hK hP 11 (wg_11 g X M) rfl 32 (by decide) hf (fun _ h9 => h9) rfl hd (h H locs ls hP hS hl)
  · exact va_getN (D := g.1) (C := RX10) (T := TX10) (N := 36) (ci := 10) hx hb hts hin hown hK hP 11 (wg_11 g X M) rfl 32 (by decide) hf (fun _ h9 => h9) rfl hd (h H locs ls hP hS hl)
theorem jg_11_33 {idx : Nat} (hκ : CF κ g own cc Ts nL rm) (hin : ∀ w ∈ wsX100, w ∈ Ts) (hf : fl κ own idx "LampRoundModel" "newLeft" "[I") (hd : decode cc pc = .ok (.getfield idx, 3)) (ep : pc + 3 = pc') (h : Jw κ g nL X M lv pc' (.ref (g.2.1 74) :: st)) : Jw κ g nL X M lv pc (.ref (g.2.1 11) :: st) := by
  obtain ⟨p, l, e, R, s, m, args, below, meth, c, cells, slots, Q, A⟩ := κ
  obtain ⟨hx, hb, hml, hown, hts, hK, hN, hD, hAA, rfl, hc9, hs9, hg⟩ := hκ
  subst ep
  intro H locs ls hP hS hl
  rcases hf with hf | ⟨host, hf⟩
  · exact va_get (D := g.1) (C := RX10) (T := TX10) (N := 36) (ci := 10) hx hb hts hin hown hK hP 11 (wg_11 g X M) rfl 33 (by decide) hf (fun _ h9 => h9) rfl hd (h H locs ls hP hS hl)
  · exact va_getN (D := g.1) (C := RX10) (T := TX10) (N := 36) (ci := 10) hx hb hts hin hown hK hP 11 (wg_11 g X M) rfl 33 (by decide) hf (fun _ h9 => h9) rfl hd (h H locs ls hP hS hl)
theorem jg_11_34 {idx : Nat} (hκ : CF κ g own cc Ts nL rm) (hin : ∀ w ∈ wsX100, w ∈ Ts) (hf : fl κ own idx "LampRoundModel" "newRight" "[I") (hd : decode cc pc = .ok (.getfield idx, 3)) (ep : pc + 3 = pc') (h : Jw κ g nL X M lv pc' (.ref (g.2.1 75) :: st)) : Jw κ g nL X M lv pc (.ref (g.2.1 11) :: st) := by
  obtain ⟨p, l, e, R, s, m, args, below, meth, c, cells, slots, Q, A⟩ := κ
  obtain ⟨hx, hb, hml, hown, hts, hK, hN, hD, hAA, rfl, hc9, hs9, hg⟩ := hκ
  subst ep
  intro H locs ls hP hS hl
  rcases hf with hf | ⟨host, hf⟩
  · exact va_get (D := g.1) (C := RX10) (T := TX10) (N := 36) (ci := 10) hx hb hts hin hown hK hP 11 (wg_11 g X M) rfl 34 (by decide) hf (fun _ h9 => h9) rfl hd (h H locs ls hP hS hl)
  · exact va_getN (D := g.1) (C := RX10) (T := TX10) (N := 36) (ci := 10) hx hb hts hin hown hK hP 11 (wg_11 g X M) rfl 34 (by decide) hf (fun _ h9 => h9) rfl hd (h H locs ls hP hS hl)
theorem jg_11_35 {idx : Nat} (hκ : CF κ g own cc Ts nL rm) (hin : ∀ w ∈ wsX100, w ∈ Ts) (hf : fl κ own idx "LampRoundModel" "news" "I") (hd : decode cc pc = .ok (.getfield idx, 3)) (ep : pc + 3 = pc') (h : Jw κ g nL X M lv pc' (.int (M.1 21) :: st)) : Jw κ g nL X M lv pc (.ref (g.2.1 11) :: st) := by
  obtain ⟨p, l, e, R, s, m, args, below, meth, c, cells, slots, Q, A⟩ := κ
  obtain ⟨hx, hb, hml, hown, hts, hK, hN, hD, hAA, rfl, hc9, hs9, hg⟩ := hκ
  subst ep
  intro H locs ls hP hS hl
  rcases hf with hf | ⟨host, hf⟩
  · exact va_get (D := g.1) (C := RX10) (T := TX10) (N := 36) (ci := 10) hx hb hts hin hown hK hP 11 (wg_11 g X M) rfl 35 (by decide) hf (fun _ h9 => h9) rfl hd (h H locs ls hP hS hl)
  · exact va_getN (D := g.1) (C := RX10) (T := TX10) (N := 36) (ci := 10) hx hb hts hin hown hK hP 11 (wg_11 g X M) rfl 35 (by decide) hf (fun _ h9 => h9) rfl hd (h H locs ls hP hS hl)
theorem jp_11_35 {idx : Nat} {v : Int32} (hκ : CF κ g own cc Ts nL rm) (hin : ∀ w ∈ wsX100, w ∈ Ts) (hf : fl κ own idx "LampRoundModel" "news" "I") (hd : decode cc pc = .ok (.putfield idx, 3)) (ep : pc + 3 = pc') (h : Jw κ g nL X (ks_sI M 21 v) lv pc' st) : Jw κ g nL X M lv pc (.int v :: .ref (g.2.1 11) :: st) := by
  obtain ⟨p, l, e, R, s, m, args, below, meth, c, cells, slots, Q, A⟩ := κ
  obtain ⟨hx, hb, hml, hown, hts, hK, hN, hD, hAA, rfl, hc9, hs9, hg⟩ := hκ
  subst ep
  intro H locs ls hP hS hl
  rcases hf with hf | ⟨host, hf⟩
  · exact va_put (D := g.1) (C := RX10) (T := TX10) (N := 36) (ci := 10) (ty := .int) hx hb hts hin tyX10 tyX10_ok nmX10 hown hK hP (hD X M) hS 11 (wg_11 g X M) rfl 35 (by decide) hf (fun _ h9 => h9) rfl (by decide +kernel) rfl rfl (Nat.le_of_ble_eq_true rfl) hd (fun H1 locs1 hP1 _ hS1 => h H1 locs1 ls (by rw [← wf_11_35]; exact hP1) hS1 hl)
  · exact va_putN (D := g.1) (C := RX10) (T := TX10) (N := 36) (ci := 10) (ty := .int) hx hb hts hin tyX10 tyX10_ok nmX10 hown hK hP (hD X M) hS 11 (wg_11 g X M) rfl 35 (by decide) hf (fun _ h9 => h9) rfl (by decide +kernel) rfl rfl (Nat.le_of_ble_eq_true rfl) hd (fun H1 locs1 hP1 _ hS1 => h H1 locs1 ls (by rw [← wf_11_35]; exact hP1) hS1 hl)
end JR
