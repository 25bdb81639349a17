abbrev ST : Type := (Nat → Int32) × (Nat → Int64) × (Nat → Nat → Int32) × (Nat → Nat → Int64)
def ks_up {α : Type} (f : Nat → α) (k : Nat) (v : α) : Nat → α := fun j => if j = k then v else f j
theorem ks_up_eq {α : Type} (f : Nat → α) (k : Nat) (v : α) : ks_up f k v k = v := if_pos rfl
theorem ks_up_ne {α : Type} (f : Nat → α) {k j : Nat} (v : α) (h : j ≠ k) : ks_up f k v j = f j := if_neg h
abbrev ks_sI (X : ST) (k : Nat) (v : Int32) : ST := (ks_up X.1 k v, X.2)
abbrev ks_sJ (X : ST) (k : Nat) (v : Int64) : ST := (X.1, ks_up X.2.1 k v, X.2.2)
abbrev ks_sA (X : ST) (k : Nat) (v : Nat → Int32) : ST := (X.1, X.2.1, ks_up X.2.2.1 k v, X.2.2.2)
abbrev ks_sB (X : ST) (k : Nat) (v : Nat → Int64) : ST := (X.1, X.2.1, X.2.2.1, ks_up X.2.2.2 k v)
abbrev x_Rows_kinds (X : ST) : Nat → Int32 := X.2.2.1 13
abbrev xs_Rows_kinds (X : ST) (v : Nat → Int32) : ST := ks_sA X 13 v
abbrev x_Rows_sizes (X : ST) : Nat → Int32 := X.2.2.1 14
abbrev xs_Rows_sizes (X : ST) (v : Nat → Int32) : ST := ks_sA X 14 v
abbrev x_Town_from (X : ST) : Nat → Int32 := X.2.2.1 15
abbrev xs_Town_from (X : ST) (v : Nat → Int32) : ST := ks_sA X 15 v
abbrev x_Town_to (X : ST) : Nat → Int32 := X.2.2.1 16
abbrev xs_Town_to (X : ST) (v : Nat → Int32) : ST := ks_sA X 16 v
abbrev x_Town_size (X : ST) : Nat → Int32 := X.2.2.1 17
abbrev xs_Town_size (X : ST) (v : Nat → Int32) : ST := ks_sA X 17 v
abbrev x_Town_isOpen (X : ST) : Nat → Int32 := X.2.2.1 18
abbrev xs_Town_isOpen (X : ST) (v : Nat → Int32) : ST := ks_sA X 18 v
abbrev x_Town_reckoned (X : ST) : Int64 := X.2.1 0
abbrev xs_Town_reckoned (X : ST) (v : Int64) : ST := ks_sJ X 0 v
abbrev x_Town_count (X : ST) : Int32 := X.1 0
abbrev xs_Town_count (X : ST) (v : Int32) : ST := ks_sI X 0 v
abbrev x_Lamps_crossings (X : ST) : Nat → Int32 := X.2.2.1 20
abbrev xs_Lamps_crossings (X : ST) (v : Nat → Int32) : ST := ks_sA X 20 v
abbrev x_Lamps_kinds (X : ST) : Nat → Int32 := X.2.2.1 21
abbrev xs_Lamps_kinds (X : ST) (v : Nat → Int32) : ST := ks_sA X 21 v
abbrev x_Lamps_others (X : ST) : Nat → Int32 := X.2.2.1 22
abbrev xs_Lamps_others (X : ST) (v : Nat → Int32) : ST := ks_sA X 22 v
abbrev x_Lamps_prices (X : ST) : Nat → Int32 := X.2.2.1 23
abbrev xs_Lamps_prices (X : ST) (v : Nat → Int32) : ST := ks_sA X 23 v
abbrev x_Lamps_twins (X : ST) : Nat → Int32 := X.2.2.1 24
abbrev xs_Lamps_twins (X : ST) (v : Nat → Int32) : ST := ks_sA X 24 v
abbrev x_Lamps_needs (X : ST) : Nat → Int32 := X.2.2.1 25
abbrev xs_Lamps_needs (X : ST) (v : Nat → Int32) : ST := ks_sA X 25 v
abbrev x_Lamps_live (X : ST) : Int32 := X.1 1
abbrev xs_Lamps_live (X : ST) (v : Int32) : ST := ks_sI X 1 v
abbrev x_Lamps_count (X : ST) : Int32 := X.1 2
abbrev xs_Lamps_count (X : ST) (v : Int32) : ST := ks_sI X 2 v
abbrev x_Lamps_surveyed (X : ST) : Int32 := X.1 3
abbrev xs_Lamps_surveyed (X : ST) (v : Int32) : ST := ks_sI X 3 v
abbrev x_Told_order (X : ST) : Nat → Int32 := X.2.2.1 27
abbrev xs_Told_order (X : ST) (v : Nat → Int32) : ST := ks_sA X 27 v
abbrev x_Told_count (X : ST) : Int32 := X.1 4
abbrev xs_Told_count (X : ST) (v : Int32) : ST := ks_sI X 4 v
abbrev x_Search_musts (X : ST) : Nat → Int32 := X.2.2.1 28
abbrev xs_Search_musts (X : ST) (v : Nat → Int32) : ST := ks_sA X 28 v
abbrev x_Search_bans (X : ST) : Nat → Int32 := X.2.2.1 29
abbrev xs_Search_bans (X : ST) (v : Nat → Int32) : ST := ks_sA X 29 v
abbrev x_Search_live (X : ST) : Nat → Int32 := X.2.2.1 30
abbrev xs_Search_live (X : ST) (v : Nat → Int32) : ST := ks_sA X 30 v
abbrev x_Search_order (X : ST) : Nat → Int32 := X.2.2.1 31
abbrev xs_Search_order (X : ST) (v : Nat → Int32) : ST := ks_sA X 31 v
abbrev x_Search_best (X : ST) : Nat → Int32 := X.2.2.1 32
abbrev xs_Search_best (X : ST) (v : Nat → Int32) : ST := ks_sA X 32 v
abbrev x_Search_shunned (X : ST) : Nat → Int32 := X.2.2.1 33
abbrev xs_Search_shunned (X : ST) (v : Nat → Int32) : ST := ks_sA X 33 v
abbrev x_Search_shuns (X : ST) : Int32 := X.1 5
abbrev xs_Search_shuns (X : ST) (v : Int32) : ST := ks_sI X 5 v
abbrev x_Search_size (X : ST) : Int32 := X.1 6
abbrev xs_Search_size (X : ST) (v : Int32) : ST := ks_sI X 6 v
abbrev x_Search_bestLength (X : ST) : Int32 := X.1 7
abbrev xs_Search_bestLength (X : ST) (v : Int32) : ST := ks_sI X 7 v
abbrev x_Case_joined (X : ST) : Nat → Int32 := X.2.2.1 34
abbrev xs_Case_joined (X : ST) (v : Nat → Int32) : ST := ks_sA X 34 v
abbrev x_Case_parted (X : ST) : Nat → Int32 := X.2.2.1 35
abbrev xs_Case_parted (X : ST) (v : Nat → Int32) : ST := ks_sA X 35 v
abbrev x_Case_split (X : ST) : Nat → Int32 := X.2.2.1 36
abbrev xs_Case_split (X : ST) (v : Nat → Int32) : ST := ks_sA X 36 v
abbrev x_Case_isSecond (X : ST) : Nat → Int32 := X.2.2.1 37
abbrev xs_Case_isSecond (X : ST) (v : Nat → Int32) : ST := ks_sA X 37 v
abbrev x_Case_depth (X : ST) : Int32 := X.1 8
abbrev xs_Case_depth (X : ST) (v : Int32) : ST := ks_sI X 8 v
abbrev x_Case_isOver (X : ST) : Int32 := X.1 9
abbrev xs_Case_isOver (X : ST) (v : Int32) : ST := ks_sI X 9 v
abbrev x_Tree_ranked (X : ST) : Nat → Int64 := X.2.2.2 38
abbrev xs_Tree_ranked (X : ST) (v : Nat → Int64) : ST := ks_sB X 38 v
abbrev x_Tree_takenPairs (X : ST) : Nat → Int32 := X.2.2.1 39
abbrev xs_Tree_takenPairs (X : ST) (v : Nat → Int32) : ST := ks_sA X 39 v
abbrev x_Tree_hung (X : ST) : Nat → Int32 := X.2.2.1 40
abbrev xs_Tree_hung (X : ST) (v : Nat → Int32) : ST := ks_sA X 40 v
abbrev x_Tree_pairs (X : ST) : Int32 := X.1 10
abbrev xs_Tree_pairs (X : ST) (v : Int32) : ST := ks_sI X 10 v
abbrev x_Tree_takenCount (X : ST) : Int32 := X.1 11
abbrev xs_Tree_takenCount (X : ST) (v : Int32) : ST := ks_sI X 11 v
abbrev x_Tree_takenOfFirst (X : ST) : Int32 := X.1 12
abbrev xs_Tree_takenOfFirst (X : ST) (v : Int32) : ST := ks_sI X 12 v
abbrev x_Tree_sum (X : ST) : Int64 := X.2.1 1
abbrev xs_Tree_sum (X : ST) (v : Int64) : ST := ks_sJ X 1 v
abbrev x_proof_ops (X : ST) : Nat → Int32 := X.2.2.1 41
abbrev xs_proof_ops (X : ST) (v : Nat → Int32) : ST := ks_sA X 41 v
abbrev x_proof_as (X : ST) : Nat → Int32 := X.2.2.1 42
abbrev xs_proof_as (X : ST) (v : Nat → Int32) : ST := ks_sA X 42 v
abbrev x_proof_bs (X : ST) : Nat → Int32 := X.2.2.1 43
abbrev xs_proof_bs (X : ST) (v : Nat → Int32) : ST := ks_sA X 43 v
abbrev x_proof_count (X : ST) : Int32 := X.1 13
abbrev xs_proof_count (X : ST) (v : Int32) : ST := ks_sI X 13 v
abbrev x_draft_ops (X : ST) : Nat → Int32 := X.2.2.1 44
abbrev xs_draft_ops (X : ST) (v : Nat → Int32) : ST := ks_sA X 44 v
abbrev x_draft_as (X : ST) : Nat → Int32 := X.2.2.1 45
abbrev xs_draft_as (X : ST) (v : Nat → Int32) : ST := ks_sA X 45 v
abbrev x_draft_bs (X : ST) : Nat → Int32 := X.2.2.1 46
abbrev xs_draft_bs (X : ST) (v : Nat → Int32) : ST := ks_sA X 46 v
abbrev x_draft_count (X : ST) : Int32 := X.1 14
abbrev xs_draft_count (X : ST) (v : Int32) : ST := ks_sI X 14 v
abbrev m_lanes (X : ST) : Int32 := X.1 15
abbrev ms_lanes (X : ST) (v : Int32) : ST := ks_sI X 15 v
abbrev m_from (X : ST) : Nat → Int32 := X.2.2.1 47
abbrev ms_from (X : ST) (v : Nat → Int32) : ST := ks_sA X 47 v
abbrev m_to (X : ST) : Nat → Int32 := X.2.2.1 48
abbrev ms_to (X : ST) (v : Nat → Int32) : ST := ks_sA X 48 v
abbrev m_length (X : ST) : Nat → Int32 := X.2.2.1 49
abbrev ms_length (X : ST) (v : Nat → Int32) : ST := ks_sA X 49 v
abbrev m_isOpen (X : ST) : Nat → Int32 := X.2.2.1 50
abbrev ms_isOpen (X : ST) (v : Nat → Int32) : ST := ks_sA X 50 v
abbrev m_rowKind (X : ST) : Nat → Int32 := X.2.2.1 51
abbrev ms_rowKind (X : ST) (v : Nat → Int32) : ST := ks_sA X 51 v
abbrev m_rowSize (X : ST) : Nat → Int32 := X.2.2.1 52
abbrev ms_rowSize (X : ST) (v : Nat → Int32) : ST := ks_sA X 52 v
abbrev m_cell (X : ST) : Nat → Int64 := X.2.2.2 53
abbrev ms_cell (X : ST) (v : Nat → Int64) : ST := ks_sB X 53 v
abbrev m_ways (X : ST) : Nat → Int32 := X.2.2.1 54
abbrev ms_ways (X : ST) (v : Nat → Int32) : ST := ks_sA X 54 v
abbrev m_lamps (X : ST) : Int32 := X.1 16
abbrev ms_lamps (X : ST) (v : Int32) : ST := ks_sI X 16 v
abbrev m_crossing (X : ST) : Nat → Int32 := X.2.2.1 55
abbrev ms_crossing (X : ST) (v : Nat → Int32) : ST := ks_sA X 55 v
abbrev m_kind (X : ST) : Nat → Int32 := X.2.2.1 56
abbrev ms_kind (X : ST) (v : Nat → Int32) : ST := ks_sA X 56 v
abbrev m_other (X : ST) : Nat → Int32 := X.2.2.1 57
abbrev ms_other (X : ST) (v : Nat → Int32) : ST := ks_sA X 57 v
abbrev m_isOut (X : ST) : Nat → Int32 := X.2.2.1 58
abbrev ms_isOut (X : ST) (v : Nat → Int32) : ST := ks_sA X 58 v
abbrev m_price (X : ST) : Nat → Int32 := X.2.2.1 59
abbrev ms_price (X : ST) (v : Nat → Int32) : ST := ks_sA X 59 v
abbrev m_told (X : ST) : Int32 := X.1 17
abbrev ms_told (X : ST) (v : Int32) : ST := ks_sI X 17 v
abbrev m_round (X : ST) : Nat → Int32 := X.2.2.1 60
abbrev ms_round (X : ST) (v : Nat → Int32) : ST := ks_sA X 60 v
abbrev m_lines (X : ST) : Int32 := X.1 18
abbrev ms_lines (X : ST) (v : Int32) : ST := ks_sI X 18 v
abbrev m_op (X : ST) : Nat → Int32 := X.2.2.1 61
abbrev ms_op (X : ST) (v : Nat → Int32) : ST := ks_sA X 61 v
abbrev m_left (X : ST) : Nat → Int32 := X.2.2.1 62
abbrev ms_left (X : ST) (v : Nat → Int32) : ST := ks_sA X 62 v
abbrev m_right (X : ST) : Nat → Int32 := X.2.2.1 63
abbrev ms_right (X : ST) (v : Nat → Int32) : ST := ks_sA X 63 v
abbrev m_order (X : ST) : Nat → Int32 := X.2.2.1 64
abbrev ms_order (X : ST) (v : Nat → Int32) : ST := ks_sA X 64 v
abbrev m_best (X : ST) : Nat → Int32 := X.2.2.1 65
abbrev ms_best (X : ST) (v : Nat → Int32) : ST := ks_sA X 65 v
abbrev m_written (X : ST) : Nat → Int32 := X.2.2.1 66
abbrev ms_written (X : ST) (v : Nat → Int32) : ST := ks_sA X 66 v
abbrev m_pairs (X : ST) : Nat → Int32 := X.2.2.1 67
abbrev ms_pairs (X : ST) (v : Nat → Int32) : ST := ks_sA X 67 v
abbrev m_hang (X : ST) : Nat → Int32 := X.2.2.1 68
abbrev ms_hang (X : ST) (v : Nat → Int32) : ST := ks_sA X 68 v
abbrev m_takenPair (X : ST) : Nat → Int32 := X.2.2.1 69
abbrev ms_takenPair (X : ST) (v : Nat → Int32) : ST := ks_sA X 69 v
abbrev m_taken (X : ST) : Int32 := X.1 19
abbrev ms_taken (X : ST) (v : Int32) : ST := ks_sI X 19 v
abbrev m_isTaken (X : ST) : Nat → Int32 := X.2.2.1 70
abbrev ms_isTaken (X : ST) (v : Nat → Int32) : ST := ks_sA X 70 v
abbrev m_waiting (X : ST) : Nat → Int32 := X.2.2.1 71
abbrev ms_waiting (X : ST) (v : Nat → Int32) : ST := ks_sA X 71 v
abbrev m_waits (X : ST) : Int32 := X.1 20
abbrev ms_waits (X : ST) (v : Int32) : ST := ks_sI X 20 v
abbrev m_ring (X : ST) : Nat → Int32 := X.2.2.1 72
abbrev ms_ring (X : ST) (v : Nat → Int32) : ST := ks_sA X 72 v
abbrev m_newOp (X : ST) : Nat → Int32 := X.2.2.1 73
abbrev ms_newOp (X : ST) (v : Nat → Int32) : ST := ks_sA X 73 v
abbrev m_newLeft (X : ST) : Nat → Int32 := X.2.2.1 74
abbrev ms_newLeft (X : ST) (v : Nat → Int32) : ST := ks_sA X 74 v
abbrev m_newRight (X : ST) : Nat → Int32 := X.2.2.1 75
abbrev ms_newRight (X : ST) (v : Nat → Int32) : ST := ks_sA X 75 v
abbrev m_news (X : ST) : Int32 := X.1 21
abbrev ms_news (X : ST) (v : Int32) : ST := ks_sI X 21 v
abbrev x_ways (X : ST) (i : Nat) : Nat → Int32 := X.2.2.1 (i + 100)
abbrev xs_ways (X : ST) (i : Nat) (v : Nat → Int32) : ST := ks_sA X (i + 100) v
abbrev x_gaps (X : ST) (i : Nat) : Nat → Int32 := X.2.2.1 (i + 200)
abbrev xs_gaps (X : ST) (i : Nat) (v : Nat → Int32) : ST := ks_sA X (i + 200) v
abbrev x_cells (X : ST) (i : Nat) : Nat → Int64 := X.2.2.2 (i + 300)
abbrev xs_cells (X : ST) (i : Nat) (v : Nat → Int64) : ST := ks_sB X (i + 300) v
/-- the tables (classes, slots), the addresses of the cells, the array classes (int[], long[], boolean[], int[][], long[][]) -/
abbrev Gx : Type := va_G × (Nat → Nat) × (Nat → ClassId)
def wtys (g : Gx) : List (ClassId × FieldType) := [(g.2.2 0, .int), (g.2.2 1, .long), (g.2.2 2, .boolean), (g.2.2 3, .array .int), (g.2.2 4, .array .long)]
def wr_ways (g : Gx) (X : ST) : va_W := (List.range 40).map (fun i => (g.2.1 (i + 100), .inl (g.2.2 0, 40, .inl (X.2.2.1 (i + 100)))))
def wr_gaps (g : Gx) (X : ST) : va_W := (List.range 12).map (fun i => (g.2.1 (i + 200), .inl (g.2.2 0, 12, .inl (X.2.2.1 (i + 200)))))
def wr_cells (g : Gx) (X : ST) : va_W := (List.range 4).map (fun i => (g.2.1 (i + 300), .inl (g.2.2 1, 50, .inr (.inl (X.2.2.2 (i + 300))))))
def wobj (g : Gx) (X M : ST) : va_W := [(g.2.1 0, .inr (9, [.ref (g.2.1 1), .ref (g.2.1 2), .ref (g.2.1 3), .ref (g.2.1 4), .ref (g.2.1 5), .ref (g.2.1 6), .ref (g.2.1 7), .ref (g.2.1 8), .ref (g.2.1 9), .ref (g.2.1 10)])),
  (g.2.1 1, .inr (4, [.ref (g.2.1 12), .ref (g.2.1 13), .ref (g.2.1 14)])),
  (g.2.1 2, .inr (7, [.ref (g.2.1 15), .ref (g.2.1 16), .ref (g.2.1 17), .ref (g.2.1 18), .ref (g.2.1 19), .long (X.2.1 0), .int (X.1 0)])),
  (g.2.1 3, .inr (2, [.ref (g.2.1 2), .ref (g.2.1 20), .ref (g.2.1 21), .ref (g.2.1 22), .ref (g.2.1 23), .ref (g.2.1 24), .ref (g.2.1 25), .ref (g.2.1 26), .int (X.1 1), .int (X.1 2), .int (X.1 3)])),
  (g.2.1 4, .inr (6, [.ref (g.2.1 3), .ref (g.2.1 27), .int (X.1 4)])),
  (g.2.1 5, .inr (5, [.ref (g.2.1 3), .ref (g.2.1 28), .ref (g.2.1 29), .ref (g.2.1 30), .ref (g.2.1 31), .ref (g.2.1 32), .ref (g.2.1 33), .int (X.1 5), .int (X.1 6), .int (X.1 7)])),
  (g.2.1 6, .inr (0, [.ref (g.2.1 34), .ref (g.2.1 35), .ref (g.2.1 36), .ref (g.2.1 37), .int (X.1 8), .int (X.1 9)])),
  (g.2.1 7, .inr (8, [.ref (g.2.1 3), .ref (g.2.1 6), .ref (g.2.1 38), .ref (g.2.1 39), .ref (g.2.1 40), .int (X.1 10), .int (X.1 11), .int (X.1 12), .long (X.2.1 1)])),
  (g.2.1 8, .inr (1, [.ref (g.2.1 3), .ref (g.2.1 6), .ref (g.2.1 7)])),
  (g.2.1 9, .inr (3, [.ref (g.2.1 41), .ref (g.2.1 42), .ref (g.2.1 43), .int (X.1 13)])),
  (g.2.1 10, .inr (3, [.ref (g.2.1 44), .ref (g.2.1 45), .ref (g.2.1 46), .int (X.1 14)])),
  (g.2.1 11, .inr (10, [.int (M.1 15), .ref (g.2.1 47), .ref (g.2.1 48), .ref (g.2.1 49), .ref (g.2.1 50), .ref (g.2.1 51), .ref (g.2.1 52), .ref (g.2.1 53), .ref (g.2.1 54), .int (M.1 16), .ref (g.2.1 55), .ref (g.2.1 56), .ref (g.2.1 57), .ref (g.2.1 58), .ref (g.2.1 59), .int (M.1 17), .ref (g.2.1 60), .int (M.1 18), .ref (g.2.1 61), .ref (g.2.1 62), .ref (g.2.1 63), .ref (g.2.1 64), .ref (g.2.1 65), .ref (g.2.1 66), .ref (g.2.1 67), .ref (g.2.1 68), .ref (g.2.1 69), .int (M.1 19), .ref (g.2.1 70), .ref (g.2.1 71), .int (M.1 20), .ref (g.2.1 72), .ref (g.2.1 73), .ref (g.2.1 74), .ref (g.2.1 75), .int (M.1 21)])),
  (g.2.1 12, .inl (g.2.2 4, 4, .inr (.inr (.inr (.inr (fun i => if i < 4 then some (g.2.1 (i + 300)) else none)))))),
  (g.2.1 13, .inl (g.2.2 0, 4, .inl (X.2.2.1 13))),
  (g.2.1 14, .inl (g.2.2 0, 4, .inl (X.2.2.1 14))),
  (g.2.1 15, .inl (g.2.2 0, 100, .inl (X.2.2.1 15))),
  (g.2.1 16, .inl (g.2.2 0, 100, .inl (X.2.2.1 16))),
  (g.2.1 17, .inl (g.2.2 0, 100, .inl (X.2.2.1 17))),
  (g.2.1 18, .inl (g.2.2 2, 100, .inl (X.2.2.1 18))),
  (g.2.1 19, .inl (g.2.2 3, 40, .inr (.inr (.inr (.inr (fun i => if i < 40 then some (g.2.1 (i + 100)) else none)))))),
  (g.2.1 20, .inl (g.2.2 0, 12, .inl (X.2.2.1 20))),
  (g.2.1 21, .inl (g.2.2 0, 12, .inl (X.2.2.1 21))),
  (g.2.1 22, .inl (g.2.2 0, 12, .inl (X.2.2.1 22))),
  (g.2.1 23, .inl (g.2.2 0, 12, .inl (X.2.2.1 23))),
  (g.2.1 24, .inl (g.2.2 0, 12, .inl (X.2.2.1 24))),
  (g.2.1 25, .inl (g.2.2 0, 12, .inl (X.2.2.1 25))),
  (g.2.1 26, .inl (g.2.2 3, 12, .inr (.inr (.inr (.inr (fun i => if i < 12 then some (g.2.1 (i + 200)) else none)))))),
  (g.2.1 27, .inl (g.2.2 0, 12, .inl (X.2.2.1 27))),
  (g.2.1 28, .inl (g.2.2 0, 12, .inl (X.2.2.1 28))),
  (g.2.1 29, .inl (g.2.2 0, 12, .inl (X.2.2.1 29))),
  (g.2.1 30, .inl (g.2.2 0, 8, .inl (X.2.2.1 30))),
  (g.2.1 31, .inl (g.2.2 0, 8, .inl (X.2.2.1 31))),
  (g.2.1 32, .inl (g.2.2 0, 8, .inl (X.2.2.1 32))),
  (g.2.1 33, .inl (g.2.2 0, 8, .inl (X.2.2.1 33))),
  (g.2.1 34, .inl (g.2.2 0, 12, .inl (X.2.2.1 34))),
  (g.2.1 35, .inl (g.2.2 0, 12, .inl (X.2.2.1 35))),
  (g.2.1 36, .inl (g.2.2 0, 66, .inl (X.2.2.1 36))),
  (g.2.1 37, .inl (g.2.2 2, 66, .inl (X.2.2.1 37))),
  (g.2.1 38, .inl (g.2.2 1, 66, .inr (.inl (X.2.2.2 38)))),
  (g.2.1 39, .inl (g.2.2 0, 12, .inl (X.2.2.1 39))),
  (g.2.1 40, .inl (g.2.2 0, 12, .inl (X.2.2.1 40))),
  (g.2.1 41, .inl (g.2.2 0, 400, .inl (X.2.2.1 41))),
  (g.2.1 42, .inl (g.2.2 0, 400, .inl (X.2.2.1 42))),
  (g.2.1 43, .inl (g.2.2 0, 400, .inl (X.2.2.1 43))),
  (g.2.1 44, .inl (g.2.2 0, 400, .inl (X.2.2.1 44))),
  (g.2.1 45, .inl (g.2.2 0, 400, .inl (X.2.2.1 45))),
  (g.2.1 46, .inl (g.2.2 0, 400, .inl (X.2.2.1 46))),
  (g.2.1 47, .inl (g.2.2 0, 100, .inl (M.2.2.1 47))),
  (g.2.1 48, .inl (g.2.2 0, 100, .inl (M.2.2.1 48))),
  (g.2.1 49, .inl (g.2.2 0, 100, .inl (M.2.2.1 49))),
  (g.2.1 50, .inl (g.2.2 2, 100, .inl (M.2.2.1 50))),
  (g.2.1 51, .inl (g.2.2 0, 4, .inl (M.2.2.1 51))),
  (g.2.1 52, .inl (g.2.2 0, 4, .inl (M.2.2.1 52))),
  (g.2.1 53, .inl (g.2.2 1, 200, .inr (.inl (M.2.2.2 53)))),
  (g.2.1 54, .inl (g.2.2 0, 1600, .inl (M.2.2.1 54))),
  (g.2.1 55, .inl (g.2.2 0, 12, .inl (M.2.2.1 55))),
  (g.2.1 56, .inl (g.2.2 0, 12, .inl (M.2.2.1 56))),
  (g.2.1 57, .inl (g.2.2 0, 12, .inl (M.2.2.1 57))),
  (g.2.1 58, .inl (g.2.2 2, 12, .inl (M.2.2.1 58))),
  (g.2.1 59, .inl (g.2.2 0, 12, .inl (M.2.2.1 59))),
  (g.2.1 60, .inl (g.2.2 0, 12, .inl (M.2.2.1 60))),
  (g.2.1 61, .inl (g.2.2 0, 400, .inl (M.2.2.1 61))),
  (g.2.1 62, .inl (g.2.2 0, 400, .inl (M.2.2.1 62))),
  (g.2.1 63, .inl (g.2.2 0, 400, .inl (M.2.2.1 63))),
  (g.2.1 64, .inl (g.2.2 0, 12, .inl (M.2.2.1 64))),
  (g.2.1 65, .inl (g.2.2 0, 12, .inl (M.2.2.1 65))),
  (g.2.1 66, .inl (g.2.2 0, 12, .inl (M.2.2.1 66))),
  (g.2.1 67, .inl (g.2.2 0, 144, .inl (M.2.2.1 67))),
  (g.2.1 68, .inl (g.2.2 0, 12, .inl (M.2.2.1 68))),
  (g.2.1 69, .inl (g.2.2 0, 24, .inl (M.2.2.1 69))),
  (g.2.1 70, .inl (g.2.2 2, 144, .inl (M.2.2.1 70))),
  (g.2.1 71, .inl (g.2.2 0, 11520, .inl (M.2.2.1 71))),
  (g.2.1 72, .inl (g.2.2 2, 12, .inl (M.2.2.1 72))),
  (g.2.1 73, .inl (g.2.2 0, 400, .inl (M.2.2.1 73))),
  (g.2.1 74, .inl (g.2.2 0, 400, .inl (M.2.2.1 74))),
  (g.2.1 75, .inl (g.2.2 0, 400, .inl (M.2.2.1 75)))]
def ww (g : Gx) (X M : ST) : va_W := wobj g X M ++ (wr_ways g X ++ (wr_gaps g X ++ wr_cells g X))
def nwF : List (String × Nat × String × String × String) := [("LampRound", 91, "LampRound$Town", "count", "I"), ("LampRound", 105, "LampRound$Town", "isOpen", "[Z"), ("LampRound", 109, "LampRound$Town", "from", "[I"), ("LampRound", 113, "LampRound$Town", "to", "[I"), ("LampRound", 116, "LampRound$Town", "size", "[I"), ("LampRound", 139, "LampRound$Rows", "cells", "[[J"), ("LampRound", 147, "LampRound$Rows", "kinds", "[I"), ("LampRound", 150, "LampRound$Rows", "sizes", "[I"), ("LampRound", 171, "LampRound$Lamps", "count", "I"), ("LampRound", 178, "LampRound$Lamps", "kinds", "[I"), ("LampRound", 188, "LampRound$Lamps", "twins", "[I"), ("LampRound", 192, "LampRound$Lamps", "crossings", "[I"), ("LampRound", 199, "LampRound$Lamps", "prices", "[I"), ("LampRound", 206, "LampRound$Lines", "count", "I"), ("LampRound", 207, "LampRound$ToldRound", "count", "I"), ("LampRound", 221, "LampRound$Search", "best", "[I"), ("LampRound", 224, "LampRound$Search", "size", "I"), ("LampRound", 230, "LampRound$Search", "bestLength", "I"), ("LampRound", 236, "LampRound$Search", "shunned", "[I"), ("LampRound", 243, "LampRound$Search", "shuns", "Z"), ("LampRound", 247, "LampRound$Search", "musts", "[I"), ("LampRound", 250, "LampRound$Search", "bans", "[I"), ("LampRound", 266, "LampRound$ToldRound", "order", "[I"), ("LampRound", 307, "LampRound$Tree", "takenCount", "I"), ("LampRound", 310, "LampRound$Tree", "takenPairs", "[I"), ("LampRound", 333, "LampRound$Lines", "ops", "[I"), ("LampRound", 336, "LampRound$Lines", "as", "[I"), ("LampRound", 339, "LampRound$Lines", "bs", "[I"), ("LampRound", 351, "LampRound$Lamps", "surveyed", "Z"), ("LampRound$Judge", 23, "LampRound$Lines", "count", "I"), ("LampRound$Judge", 29, "LampRound$Case", "isOver", "Z"), ("LampRound$Judge", 35, "LampRound$Lines", "ops", "[I"), ("LampRound$Judge", 39, "LampRound$Lines", "as", "[I"), ("LampRound$Judge", 42, "LampRound$Lines", "bs", "[I"), ("LampRound$Judge", 96, "LampRound$Lamps", "needs", "[I"), ("LampRound$Judge", 99, "LampRound$Case", "parted", "[I"), ("LampRound$Judge", 111, "LampRound$Case", "joined", "[I"), ("LampRound$Judge", 120, "LampRound$Lamps", "live", "I"), ("LampRound$Judge", 143, "LampRound$Lamps", "count", "I"), ("LampRound$Search", 51, "LampRound$Lamps", "needs", "[I"), ("LampRound$Search", 66, "LampRound$Lamps", "count", "I"), ("LampRound$Search", 81, "LampRound$Lamps", "gaps", "[[I"), ("LampRound$ToldRound", 38, "LampRound$Lamps", "gaps", "[[I"), ("LampRound$ToldRound", 49, "LampRound$Lamps", "needs", "[I"), ("LampRound$Tree", 44, "LampRound$Lamps", "count", "I"), ("LampRound$Tree", 72, "LampRound$Lamps", "gaps", "[[I"), ("LampRound$Tree", 77, "LampRound$Lamps", "prices", "[I"), ("LampRound$Tree", 119, "LampRound$Case", "joined", "[I"), ("LampRound$Tree", 122, "LampRound$Case", "parted", "[I"), ("LampRound$Tree", 129, "LampRound$Lamps", "live", "I")]
def nwM : List (String × Nat × MethodName) := [("LampRound", 18, ⟨"LampRound$Town", "<init>", "()V"⟩), ("LampRound", 50, ⟨"LampRound$Case", "<init>", "()V"⟩), ("LampRound", 75, ⟨"LampRound$Lines", "<init>", "()V"⟩), ("LampRound$Case", 39, ⟨"LampRound", "isIn", "(II)Z"⟩), ("LampRound$Case", 43, ⟨"LampRound", "pairOf", "(II)I"⟩), ("LampRound$Case", 50, ⟨"LampRound", "lesserOf", "(I)I"⟩), ("LampRound$Case", 54, ⟨"LampRound", "greaterOf", "(I)I"⟩), ("LampRound$Judge", 81, ⟨"LampRound", "isIn", "(II)Z"⟩), ("LampRound$Judge", 137, ⟨"LampRound", "lesserOf", "(I)I"⟩), ("LampRound$Judge", 140, ⟨"LampRound", "greaterOf", "(I)I"⟩), ("LampRound$Lamps", 54, ⟨"LampRound", "isIn", "(II)Z"⟩), ("LampRound$Search", 90, ⟨"LampRound", "isIn", "(II)Z"⟩), ("LampRound$Town", 38, ⟨"LampRound", "isLength", "(J)Z"⟩), ("LampRound$Tree", 64, ⟨"LampRound", "lesserOf", "(I)I"⟩), ("LampRound$Tree", 67, ⟨"LampRound", "greaterOf", "(I)I"⟩), ("LampRound$Tree", 82, ⟨"LampRound", "pairOf", "(II)I"⟩), ("LampRound$Tree", 108, ⟨"LampRound", "isIn", "(II)Z"⟩)]

/-- a method's frame: program, launch, environment, room, start, method, arguments, frames below, method and code, cells and slots made, what is to hold, what may change -/
abbrev Cx : Type := Program × Launch × Env × Room × State × MethodId × Array Value × List Frame × Method × Code × Nat × Nat × (State → Prop) × (Nat → Prop)
def wA (g : Gx) : Nat → Prop := fun q => ∃ (k : Nat) (e : va_E), (ww g (fun _ => 0, fun _ => 0, fun _ _ => 0, fun _ _ => 0) (fun _ => 0, fun _ => 0, fun _ _ => 0, fun _ _ => 0))[k]? = some (q, e)
def NW (U : State) : Prop := (∀ q ∈ nwF, va_Nw (.fieldLinkNest q.1 q.2.1 q.2.2.1 q.2.2.2.1 q.2.2.2.2 "LampRound") U) ∧ ∀ q ∈ nwM, va_Nw (.methodLinkNest q.1 q.2.1 q.2.2 "LampRound") U
theorem NW.same {u U : State} (e : u.vm = U.vm) (h : NW u) : NW U := ⟨fun q hq => va_Nw.same rfl e (h.1 q hq), fun q hq => va_Nw.same rfl e (h.2 q hq)⟩
theorem NW.warm {u U : State} (e : u.WarmedH U.vm) (h : NW u) : NW U := ⟨fun q hq => va_Nw.warmF e (h.1 q hq), fun q hq => va_Nw.warmM e (h.2 q hq)⟩
/-- the addresses are apart -/
def Dg (g : Gx) : Prop := ∀ X M, va_D (wA g) (ww g X M)
def CF (κ : Cx) (g : Gx) (own : String) (cc : ByteArray) (Ts : List Cond) (nL : Nat) (rm : Room) : Prop := match κ with
  | (p, _, _, R, s, m, args, _, _, c, cells, slots, _, A) => p.tables.exec = Jvm.exec ∧ c.code = cc ∧ c.maxLocals = nL ∧ s.vm.findClass own = some m.cls ∧ (∀ w ∈ Ts, w.before args s = true) ∧ va_K g.1 vwCl (wtys g) s ∧ NW s ∧ (∀ X M, va_D A (ww g X M)) ∧ (∀ q, wA g q → A q) ∧ R = rm ∧ cells + 0 ≤ rm.cells ∧ slots + 0 ≤ rm.slots ∧ Dg g
/-- from every heap that holds X and M, with these locals, at pc with this stack: the machine comes to what is to hold -/
def Jw (κ : Cx) (g : Gx) (nL : Nat) (X M : ST) (lv : List (Nat × Value)) (pc : Nat) (st : List Value) : Prop := match κ with
  | (p, l, e, R, s, m, args, below, meth, c, cells, slots, Q, A) => ∀ (H : Heap) (locs : List Loc) (ls : Array Slot), va_P g.1 vwCl (ww g X M) H → va_S A s.heap H locs → lv_has ls nL lv → W p l e R s m args below meth c H locs cells slots Q (F0 m pc ls st)
def PU (g : Gx) (X M : ST) (U : State) : Prop := va_P g.1 vwCl (ww g X M) U.heap ∧ va_K g.1 vwCl (wtys g) U ∧ NW U
theorem PU.calling {g : Gx} {X M : ST} {U : State} {gf : JFrame} {mk : MethodId} {a : Array Value} (h : PU g X M U) : PU g X M (U.calling gf mk a) := ⟨h.1, va_K.moved (u := U) (U := U.calling gf mk a) (Vm.Alike.refl U.vm) h.2.1, NW.same (u := U) rfl h.2.2⟩
theorem PU.blind {g : Gx} {X M : ST} {vs : List Value} : FrameBlind (va_Pc vs (PU g X M)) := fun _ _ _ _ q => ⟨q.1, q.2.calling⟩
def fl (κ : Cx) (own : String) (idx : Nat) (ref n d : String) : Prop := match κ with
  | (_, _, _, _, s, _, args, _, _, _, _, _, _, _) => (Cond.fieldLink own idx ref n d).before args s = true ∨ ∃ host, (Cond.fieldLinkNest own idx ref n d host).before args s = true
def ml (κ : Cx) (w : Cond) : Prop := match κ with
  | (_, _, _, _, s, _, args, _, _, _, _, _, _, _) => w.before args s = true
section JR
variable {κ : Cx} {g : Gx} {own : String} {cc : ByteArray} {Ts : List Cond} {nL : Nat} {rm : Room} {X M : ST} {lv : List (Nat × Value)} {pc pc' : Nat} {st : List Value}
theorem fl_in {idx : Nat} {ref n d : String} (hκ : CF κ g own cc Ts nL rm) (h : Cond.fieldLink own idx ref n d ∈ Ts) : fl κ own idx ref n d := by
  obtain ⟨p, l, e, R, s, m, args, below, meth, c, cells, slots, Q, A⟩ := κ
  exact Or.inl (hκ.2.2.2.2.1 _ h)
theorem fl_ne {idx : Nat} {ref n d : String} (hκ : CF κ g own cc Ts nL rm) (k : Nat) (h : nwF[k]? = some (own, idx, ref, n, d)) : fl κ own idx ref n d := by
  obtain ⟨p, l, e, R, s, m, args, below, meth, c, cells, slots, Q, A⟩ := κ
  exact Or.inr ⟨"LampRound", va_Nw.use rfl (hκ.2.2.2.2.2.2.1.1 _ (List.mem_of_getElem? h))⟩
theorem ml_in {w : Cond} (hκ : CF κ g own cc Ts nL rm) (h : w ∈ Ts) : ml κ w := by
  obtain ⟨p, l, e, R, s, m, args, below, meth, c, cells, slots, Q, A⟩ := κ
  exact hκ.2.2.2.2.1 _ h
theorem j_sub {lv' : List (Nat × Value)} (ks : List Nat) (hl : lv_pick lv ks = lv') (h : Jw κ g nL X M lv' pc st) : Jw κ g nL X M lv pc st := by
  obtain ⟨p, l, e, R, s, m, args, below, meth, c, cells, slots, Q, A⟩ := κ
  intro H locs ls hP hS hl0
  exact h H locs ls hP hS (lv_sub hl0 ks hl)
theorem j_nmX (h : ∀ Y : ST, Y = X → Jw κ g nL Y M lv pc st) : Jw κ g nL X M lv pc st := h X rfl
theorem j_nmM (h : ∀ Y : ST, Y = M → Jw κ g nL X Y lv pc st) : Jw κ g nL X M lv pc st := h M rfl
theorem j_topi {x : Int32} (h : ∀ y : Int32, y = x → Jw κ g nL X M lv pc (.int y :: st)) : Jw κ g nL X M lv pc (.int x :: st) := h x rfl
theorem j_topl {x : Int64} (h : ∀ y : Int64, y = x → Jw κ g nL X M lv pc (.long y :: st)) : Jw κ g nL X M lv pc (.long x :: st) := h x rfl
theorem j_iadd {x y : Int32} (hκ : CF κ g own cc Ts nL rm)  (hd : decode cc pc = .ok (.iadd, 1)) (ep : pc + 1 = pc') (h : Jw κ g nL X M lv pc' (.int (x + y) :: st)) : Jw κ g nL X M lv pc (.int y :: .int x :: st) := by
  obtain ⟨p, l, e, R, s, m, args, below, meth, c, cells, slots, Q, A⟩ := κ
  obtain ⟨hx, hb, hml, hown, hts, hK, hN, hD, hAA, rfl, hc9, hs9, hg⟩ := hκ
  subst ep
  intro H locs ls hP hS hl
  exact lv_iadd hx hb hd (h H locs ls hP hS hl)
theorem j_isub {x y : Int32} (hκ : CF κ g own cc Ts nL rm)  (hd : decode cc pc = .ok (.isub, 1)) (ep : pc + 1 = pc') (h : Jw κ g nL X M lv pc' (.int (x - y) :: st)) : Jw κ g nL X M lv pc (.int y :: .int x :: st) := by
  obtain ⟨p, l, e, R, s, m, args, below, meth, c, cells, slots, Q, A⟩ := κ
  obtain ⟨hx, hb, hml, hown, hts, hK, hN, hD, hAA, rfl, hc9, hs9, hg⟩ := hκ
  subst ep
  intro H locs ls hP hS hl
  exact lv_isub hx hb hd (h H locs ls hP hS hl)
theorem j_imul {x y : Int32} (hκ : CF κ g own cc Ts nL rm)  (hd : decode cc pc = .ok (.imul, 1)) (ep : pc + 1 = pc') (h : Jw κ g nL X M lv pc' (.int (x * y) :: st)) : Jw κ g nL X M lv pc (.int y :: .int x :: st) := by
  obtain ⟨p, l, e, R, s, m, args, below, meth, c, cells, slots, Q, A⟩ := κ
  obtain ⟨hx, hb, hml, hown, hts, hK, hN, hD, hAA, rfl, hc9, hs9, hg⟩ := hκ
  subst ep
  intro H locs ls hP hS hl
  exact lv_imul hx hb hd (h H locs ls hP hS hl)
theorem j_iand {x y : Int32} (hκ : CF κ g own cc Ts nL rm)  (hd : decode cc pc = .ok (.iand, 1)) (ep : pc + 1 = pc') (h : Jw κ g nL X M lv pc' (.int (x &&& y) :: st)) : Jw κ g nL X M lv pc (.int y :: .int x :: st) := by
  obtain ⟨p, l, e, R, s, m, args, below, meth, c, cells, slots, Q, A⟩ := κ
  obtain ⟨hx, hb, hml, hown, hts, hK, hN, hD, hAA, rfl, hc9, hs9, hg⟩ := hκ
  subst ep
  intro H locs ls hP hS hl
  exact lv_iand hx hb hd (h H locs ls hP hS hl)
theorem j_ior {x y : Int32} (hκ : CF κ g own cc Ts nL rm)  (hd : decode cc pc = .ok (.ior, 1)) (ep : pc + 1 = pc') (h : Jw κ g nL X M lv pc' (.int (x ||| y) :: st)) : Jw κ g nL X M lv pc (.int y :: .int x :: st) := by
  obtain ⟨p, l, e, R, s, m, args, below, meth, c, cells, slots, Q, A⟩ := κ
  obtain ⟨hx, hb, hml, hown, hts, hK, hN, hD, hAA, rfl, hc9, hs9, hg⟩ := hκ
  subst ep
  intro H locs ls hP hS hl
  exact lv_ior hx hb hd (h H locs ls hP hS hl)
theorem j_ixor {x y : Int32} (hκ : CF κ g own cc Ts nL rm)  (hd : decode cc pc = .ok (.ixor, 1)) (ep : pc + 1 = pc') (h : Jw κ g nL X M lv pc' (.int (x ^^^ y) :: st)) : Jw κ g nL X M lv pc (.int y :: .int x :: st) := by
  obtain ⟨p, l, e, R, s, m, args, below, meth, c, cells, slots, Q, A⟩ := κ
  obtain ⟨hx, hb, hml, hown, hts, hK, hN, hD, hAA, rfl, hc9, hs9, hg⟩ := hκ
  subst ep
  intro H locs ls hP hS hl
  exact lv_ixor hx hb hd (h H locs ls hP hS hl)
theorem j_ishl {x y : Int32} (hκ : CF κ g own cc Ts nL rm)  (hd : decode cc pc = .ok (.ishl, 1)) (ep : pc + 1 = pc') (h : Jw κ g nL X M lv pc' (.int (x <<< (y &&& 31)) :: st)) : Jw κ g nL X M lv pc (.int y :: .int x :: st) := by
  obtain ⟨p, l, e, R, s, m, args, below, meth, c, cells, slots, Q, A⟩ := κ
  obtain ⟨hx, hb, hml, hown, hts, hK, hN, hD, hAA, rfl, hc9, hs9, hg⟩ := hκ
  subst ep
  intro H locs ls hP hS hl
  exact lv_ishl hx hb hd (h H locs ls hP hS hl)
theorem j_ishr {x y : Int32} (hκ : CF κ g own cc Ts nL rm)  (hd : decode cc pc = .ok (.ishr, 1)) (ep : pc + 1 = pc') (h : Jw κ g nL X M lv pc' (.int (x >>> (y &&& 31)) :: st)) : Jw κ g nL X M lv pc (.int y :: .int x :: st) := by
  obtain ⟨p, l, e, R, s, m, args, below, meth, c, cells, slots, Q, A⟩ := κ
  obtain ⟨hx, hb, hml, hown, hts, hK, hN, hD, hAA, rfl, hc9, hs9, hg⟩ := hκ
  subst ep
  intro H locs ls hP hS hl
  exact lv_ishr hx hb hd (h H locs ls hP hS hl)
theorem j_idiv {x y : Int32} (hκ : CF κ g own cc Ts nL rm) (hne : ¬ y = 0) (hd : decode cc pc = .ok (.idiv, 1)) (ep : pc + 1 = pc') (h : Jw κ g nL X M lv pc' (.int (x / y) :: st)) : Jw κ g nL X M lv pc (.int y :: .int x :: st) := by
  obtain ⟨p, l, e, R, s, m, args, below, meth, c, cells, slots, Q, A⟩ := κ
  obtain ⟨hx, hb, hml, hown, hts, hK, hN, hD, hAA, rfl, hc9, hs9, hg⟩ := hκ
  subst ep
  intro H locs ls hP hS hl
  exact lv_idiv hx hb hd hne (h H locs ls hP hS hl)
theorem j_irem {x y : Int32} (hκ : CF κ g own cc Ts nL rm) (hne : ¬ y = 0) (hd : decode cc pc = .ok (.irem, 1)) (ep : pc + 1 = pc') (h : Jw κ g nL X M lv pc' (.int (x - x / y * y) :: st)) : Jw κ g nL X M lv pc (.int y :: .int x :: st) := by
  obtain ⟨p, l, e, R, s, m, args, below, meth, c, cells, slots, Q, A⟩ := κ
  obtain ⟨hx, hb, hml, hown, hts, hK, hN, hD, hAA, rfl, hc9, hs9, hg⟩ := hκ
  subst ep
  intro H locs ls hP hS hl
  exact lv_irem hx hb hd hne (h H locs ls hP hS hl)
theorem j_iushr {x y : Int32} (hκ : CF κ g own cc Ts nL rm)  (hd : decode cc pc = .ok (.iushr, 1)) (ep : pc + 1 = pc') (h : Jw κ g nL X M lv pc' (.int ((x.toUInt32 >>> (y.toUInt32 &&& Int32.toUInt32 31)).toInt32) :: st)) : Jw κ g nL X M lv pc (.int y :: .int x :: st) := by
  obtain ⟨p, l, e, R, s, m, args, below, meth, c, cells, slots, Q, A⟩ := κ
  obtain ⟨hx, hb, hml, hown, hts, hK, hN, hD, hAA, rfl, hc9, hs9, hg⟩ := hκ
  subst ep
  intro H locs ls hP hS hl
  exact lv_iushr hx hb hd rfl (h H locs ls hP hS hl)
theorem j_ladd {x y : Int64} (hκ : CF κ g own cc Ts nL rm)  (hd : decode cc pc = .ok (.ladd, 1)) (ep : pc + 1 = pc') (h : Jw κ g nL X M lv pc' (.long (x + y) :: st)) : Jw κ g nL X M lv pc (.long y :: .long x :: st) := by
  obtain ⟨p, l, e, R, s, m, args, below, meth, c, cells, slots, Q, A⟩ := κ
  obtain ⟨hx, hb, hml, hown, hts, hK, hN, hD, hAA, rfl, hc9, hs9, hg⟩ := hκ
  subst ep
  intro H locs ls hP hS hl
  exact lv_ladd hx hb hd (h H locs ls hP hS hl)
theorem j_lsub {x y : Int64} (hκ : CF κ g own cc Ts nL rm)  (hd : decode cc pc = .ok (.lsub, 1)) (ep : pc + 1 = pc') (h : Jw κ g nL X M lv pc' (.long (x - y) :: st)) : Jw κ g nL X M lv pc (.long y :: .long x :: st) := by
  obtain ⟨p, l, e, R, s, m, args, below, meth, c, cells, slots, Q, A⟩ := κ
  obtain ⟨hx, hb, hml, hown, hts, hK, hN, hD, hAA, rfl, hc9, hs9, hg⟩ := hκ
  subst ep
  intro H locs ls hP hS hl
  exact lv_lsub hx hb hd (h H locs ls hP hS hl)
theorem j_lmul {x y : Int64} (hκ : CF κ g own cc Ts nL rm)  (hd : decode cc pc = .ok (.lmul, 1)) (ep : pc + 1 = pc') (h : Jw κ g nL X M lv pc' (.long (x * y) :: st)) : Jw κ g nL X M lv pc (.long y :: .long x :: st) := by
  obtain ⟨p, l, e, R, s, m, args, below, meth, c, cells, slots, Q, A⟩ := κ
  obtain ⟨hx, hb, hml, hown, hts, hK, hN, hD, hAA, rfl, hc9, hs9, hg⟩ := hκ
  subst ep
  intro H locs ls hP hS hl
  exact lv_lmul hx hb hd (h H locs ls hP hS hl)
theorem j_land {x y : Int64} (hκ : CF κ g own cc Ts nL rm)  (hd : decode cc pc = .ok (.land, 1)) (ep : pc + 1 = pc') (h : Jw κ g nL X M lv pc' (.long (x &&& y) :: st)) : Jw κ g nL X M lv pc (.long y :: .long x :: st) := by
  obtain ⟨p, l, e, R, s, m, args, below, meth, c, cells, slots, Q, A⟩ := κ
  obtain ⟨hx, hb, hml, hown, hts, hK, hN, hD, hAA, rfl, hc9, hs9, hg⟩ := hκ
  subst ep
  intro H locs ls hP hS hl
  exact lv_land hx hb hd (h H locs ls hP hS hl)
theorem j_lor {x y : Int64} (hκ : CF κ g own cc Ts nL rm)  (hd : decode cc pc = .ok (.lor, 1)) (ep : pc + 1 = pc') (h : Jw κ g nL X M lv pc' (.long (x ||| y) :: st)) : Jw κ g nL X M lv pc (.long y :: .long x :: st) := by
  obtain ⟨p, l, e, R, s, m, args, below, meth, c, cells, slots, Q, A⟩ := κ
  obtain ⟨hx, hb, hml, hown, hts, hK, hN, hD, hAA, rfl, hc9, hs9, hg⟩ := hκ
  subst ep
  intro H locs ls hP hS hl
  exact lv_lor hx hb hd (h H locs ls hP hS hl)
theorem j_lshl {x : Int64} {y : Int32} (hκ : CF κ g own cc Ts nL rm)  (hd : decode cc pc = .ok (.lshl, 1)) (ep : pc + 1 = pc') (h : Jw κ g nL X M lv pc' (.long (x <<< (y.toInt64 &&& 63)) :: st)) : Jw κ g nL X M lv pc (.int y :: .long x :: st) := by
  obtain ⟨p, l, e, R, s, m, args, below, meth, c, cells, slots, Q, A⟩ := κ
  obtain ⟨hx, hb, hml, hown, hts, hK, hN, hD, hAA, rfl, hc9, hs9, hg⟩ := hκ
  subst ep
  intro H locs ls hP hS hl
  exact lv_lshl hx hb hd rfl (h H locs ls hP hS hl)
theorem j_lshr {x : Int64} {y : Int32} (hκ : CF κ g own cc Ts nL rm)  (hd : decode cc pc = .ok (.lshr, 1)) (ep : pc + 1 = pc') (h : Jw κ g nL X M lv pc' (.long (x >>> (y.toInt64 &&& 63)) :: st)) : Jw κ g nL X M lv pc (.int y :: .long x :: st) := by
  obtain ⟨p, l, e, R, s, m, args, below, meth, c, cells, slots, Q, A⟩ := κ
  obtain ⟨hx, hb, hml, hown, hts, hK, hN, hD, hAA, rfl, hc9, hs9, hg⟩ := hκ
  subst ep
  intro H locs ls hP hS hl
  exact lv_lshr hx hb hd rfl (h H locs ls hP hS hl)
theorem j_lcmp {x y : Int64} (hκ : CF κ g own cc Ts nL rm)  (hd : decode cc pc = .ok (.lcmp, 1)) (ep : pc + 1 = pc') (h : Jw κ g nL X M lv pc' (.int (lg_cmp x y) :: st)) : Jw κ g nL X M lv pc (.long y :: .long x :: st) := by
  obtain ⟨p, l, e, R, s, m, args, below, meth, c, cells, slots, Q, A⟩ := κ
  obtain ⟨hx, hb, hml, hown, hts, hK, hN, hD, hAA, rfl, hc9, hs9, hg⟩ := hκ
  subst ep
  intro H locs ls hP hS hl
  exact W.lcmp hx hb hd (h H locs ls hP hS hl)
theorem j_i2l {x : Int32} (hκ : CF κ g own cc Ts nL rm)  (hd : decode cc pc = .ok (.i2l, 1)) (ep : pc + 1 = pc') (h : Jw κ g nL X M lv pc' (.long x.toInt64 :: st)) : Jw κ g nL X M lv pc (.int x :: st) := by
  obtain ⟨p, l, e, R, s, m, args, below, meth, c, cells, slots, Q, A⟩ := κ
  obtain ⟨hx, hb, hml, hown, hts, hK, hN, hD, hAA, rfl, hc9, hs9, hg⟩ := hκ
  subst ep
  intro H locs ls hP hS hl
  exact lv_i2l hx hb hd rfl (h H locs ls hP hS hl)
theorem j_l2i {x : Int64} (hκ : CF κ g own cc Ts nL rm)  (hd : decode cc pc = .ok (.l2i, 1)) (ep : pc + 1 = pc') (h : Jw κ g nL X M lv pc' (.int x.toInt32 :: st)) : Jw κ g nL X M lv pc (.long x :: st) := by
  obtain ⟨p, l, e, R, s, m, args, below, meth, c, cells, slots, Q, A⟩ := κ
  obtain ⟨hx, hb, hml, hown, hts, hK, hN, hD, hAA, rfl, hc9, hs9, hg⟩ := hκ
  subst ep
  intro H locs ls hP hS hl
  exact lv_l2i hx hb hd rfl (h H locs ls hP hS hl)
theorem j_i2s {x : Int32} (hκ : CF κ g own cc Ts nL rm)  (hd : decode cc pc = .ok (.i2s, 1)) (ep : pc + 1 = pc') (h : Jw κ g nL X M lv pc' (.int x.toInt16.toInt32 :: st)) : Jw κ g nL X M lv pc (.int x :: st) := by
  obtain ⟨p, l, e, R, s, m, args, below, meth, c, cells, slots, Q, A⟩ := κ
  obtain ⟨hx, hb, hml, hown, hts, hK, hN, hD, hAA, rfl, hc9, hs9, hg⟩ := hκ
  subst ep
  intro H locs ls hP hS hl
  exact lv_i2s hx hb hd rfl (h H locs ls hP hS hl)
theorem j_iconst {n : Int} {v : Int32} (hκ : CF κ g own cc Ts nL rm) (hv : Int32.ofInt n = v) (hd : decode cc pc = .ok (.iconst n, 1)) (ep : pc + 1 = pc') (h : Jw κ g nL X M lv pc' (.int v :: st)) : Jw κ g nL X M lv pc (st) := by
  obtain ⟨p, l, e, R, s, m, args, below, meth, c, cells, slots, Q, A⟩ := κ
  obtain ⟨hx, hb, hml, hown, hts, hK, hN, hD, hAA, rfl, hc9, hs9, hg⟩ := hκ
  subst ep
  intro H locs ls hP hS hl
  exact lv_iconst hx hb hd hv (h H locs ls hP hS hl)
theorem j_bipush {n : Int} {v : Int32} (hκ : CF κ g own cc Ts nL rm) (hv : (Int8.ofInt n).toInt32 = v) (hd : decode cc pc = .ok (.bipush n, 2)) (ep : pc + 2 = pc') (h : Jw κ g nL X M lv pc' (.int v :: st)) : Jw κ g nL X M lv pc (st) := by
  obtain ⟨p, l, e, R, s, m, args, below, meth, c, cells, slots, Q, A⟩ := κ
  obtain ⟨hx, hb, hml, hown, hts, hK, hN, hD, hAA, rfl, hc9, hs9, hg⟩ := hκ
  subst ep
  intro H locs ls hP hS hl
  exact lv_bipush hx hb hd hv (h H locs ls hP hS hl)
theorem j_sipush {n : Int} {v : Int32} (hκ : CF κ g own cc Ts nL rm) (hv : (Int16.ofInt n).toInt32 = v) (hd : decode cc pc = .ok (.sipush n, 3)) (ep : pc + 3 = pc') (h : Jw κ g nL X M lv pc' (.int v :: st)) : Jw κ g nL X M lv pc (st) := by
  obtain ⟨p, l, e, R, s, m, args, below, meth, c, cells, slots, Q, A⟩ := κ
  obtain ⟨hx, hb, hml, hown, hts, hK, hN, hD, hAA, rfl, hc9, hs9, hg⟩ := hκ
  subst ep
  intro H locs ls hP hS hl
  exact lv_sipush hx hb hd hv (h H locs ls hP hS hl)
theorem j_lconst {n : Fin 2} {v : Int64} (hκ : CF κ g own cc Ts nL rm) (hv : Int64.ofNat (n : Nat) = v) (hd : decode cc pc = .ok (.lconst n, 1)) (ep : pc + 1 = pc') (h : Jw κ g nL X M lv pc' (.long v :: st)) : Jw κ g nL X M lv pc (st) := by
  obtain ⟨p, l, e, R, s, m, args, below, meth, c, cells, slots, Q, A⟩ := κ
  obtain ⟨hx, hb, hml, hown, hts, hK, hN, hD, hAA, rfl, hc9, hs9, hg⟩ := hκ
  subst ep
  intro H locs ls hP hS hl
  exact lv_lconst hx hb hd hv (h H locs ls hP hS hl)
theorem j_ldc {v : Int32} {idx : Nat} (hκ : CF κ g own cc Ts nL rm) (hw : Cond.constant own idx v ∈ Ts) (hd : decode cc pc = .ok (.ldc idx, 2)) (ep : pc + 2 = pc') (h : Jw κ g nL X M lv pc' (.int v :: st)) : Jw κ g nL X M lv pc (st) := by
  obtain ⟨p, l, e, R, s, m, args, below, meth, c, cells, slots, Q, A⟩ := κ
  obtain ⟨hx, hb, hml, hown, hts, hK, hN, hD, hAA, rfl, hc9, hs9, hg⟩ := hκ
  subst ep
  intro H locs ls hP hS hl
  exact lv_ldc hx hb hown (hts _ hw) hd (h H locs ls hP hS hl)
theorem j_ldc_w {v : Int32} {idx : Nat} (hκ : CF κ g own cc Ts nL rm) (hw : Cond.constant own idx v ∈ Ts) (hd : decode cc pc = .ok (.ldc_w idx, 3)) (ep : pc + 3 = pc') (h : Jw κ g nL X M lv pc' (.int v :: st)) : Jw κ g nL X M lv pc (st) := by
  obtain ⟨p, l, e, R, s, m, args, below, meth, c, cells, slots, Q, A⟩ := κ
  obtain ⟨hx, hb, hml, hown, hts, hK, hN, hD, hAA, rfl, hc9, hs9, hg⟩ := hκ
  subst ep
  intro H locs ls hP hS hl
  exact lv_ldcw hx hb hown (hts _ hw) hd (h H locs ls hP hS hl)
theorem j_ldc2_w {v : Int64} {idx : Nat} (hκ : CF κ g own cc Ts nL rm) (hw : Cond.constantLong own idx v ∈ Ts) (hd : decode cc pc = .ok (.ldc2_w idx, 3)) (ep : pc + 3 = pc') (h : Jw κ g nL X M lv pc' (.long v :: st)) : Jw κ g nL X M lv pc (st) := by
  obtain ⟨p, l, e, R, s, m, args, below, meth, c, cells, slots, Q, A⟩ := κ
  obtain ⟨hx, hb, hml, hown, hts, hK, hN, hD, hAA, rfl, hc9, hs9, hg⟩ := hκ
  subst ep
  intro H locs ls hP hS hl
  exact lv_ldc2 hx hb hown (hts _ hw) hd (h H locs ls hP hS hl)
theorem j_iload_n {k : Fin 4} {i : Nat} {x : Int32} (hκ : CF κ g own cc Ts nL rm) (j : Nat) (hj : lv[j]? = some (i, .int x)) (hi : (k : Nat) = i) (hd : decode cc pc = .ok (.iload_n k, 1)) (ep : pc + 1 = pc') (h : Jw κ g nL X M lv pc' (.int x :: st)) : Jw κ g nL X M lv pc (st) := by
  obtain ⟨p, l, e, R, s, m, args, below, meth, c, cells, slots, Q, A⟩ := κ
  obtain ⟨hx, hb, hml, hown, hts, hK, hN, hD, hAA, rfl, hc9, hs9, hg⟩ := hκ
  subst ep
  intro H locs ls hP hS hl
  exact lv_iload_n hx hb hd hi (lv_at hl j hj) (h H locs ls hP hS hl)
theorem j_iload {i : Nat} {x : Int32} (hκ : CF κ g own cc Ts nL rm) (j : Nat) (hj : lv[j]? = some (i, .int x)) (hd : decode cc pc = .ok (.iload i, 2)) (ep : pc + 2 = pc') (h : Jw κ g nL X M lv pc' (.int x :: st)) : Jw κ g nL X M lv pc (st) := by
  obtain ⟨p, l, e, R, s, m, args, below, meth, c, cells, slots, Q, A⟩ := κ
  obtain ⟨hx, hb, hml, hown, hts, hK, hN, hD, hAA, rfl, hc9, hs9, hg⟩ := hκ
  subst ep
  intro H locs ls hP hS hl
  exact lv_iload hx hb hd (lv_at hl j hj) (h H locs ls hP hS hl)
theorem j_istore_n {k : Fin 4} {i : Nat} {x : Int32} {lv' : List (Nat × Value)} (hκ : CF κ g own cc Ts nL rm) (hn : i < nL) (hl0 : (i, Value.int x) :: lv.filter (fun q => !(q.1 == i) && !(q.1 + 1 == i && q.2.category == 2)) = lv') (hi : (k : Nat) = i) (hd : decode cc pc = .ok (.istore_n k, 1)) (ep : pc + 1 = pc') (h : Jw κ g nL X M lv' pc' st) : Jw κ g nL X M lv pc (.int x :: st) := by
  obtain ⟨p, l, e, R, s, m, args, below, meth, c, cells, slots, Q, A⟩ := κ
  obtain ⟨hx, hb, hml, hown, hts, hK, hN, hD, hAA, rfl, hc9, hs9, hg⟩ := hκ
  subst ep
  intro H locs ls hP hS hl
  exact lv_istore_n hx hb hd hi hl hn hl0 (fun ls' hl' => h H locs ls' hP hS hl')
theorem j_istore {i : Nat} {x : Int32} {lv' : List (Nat × Value)} (hκ : CF κ g own cc Ts nL rm) (hn : i < nL) (hl0 : (i, Value.int x) :: lv.filter (fun q => !(q.1 == i) && !(q.1 + 1 == i && q.2.category == 2)) = lv') (hd : decode cc pc = .ok (.istore i, 2)) (ep : pc + 2 = pc') (h : Jw κ g nL X M lv' pc' st) : Jw κ g nL X M lv pc (.int x :: st) := by
  obtain ⟨p, l, e, R, s, m, args, below, meth, c, cells, slots, Q, A⟩ := κ
  obtain ⟨hx, hb, hml, hown, hts, hK, hN, hD, hAA, rfl, hc9, hs9, hg⟩ := hκ
  subst ep
  intro H locs ls hP hS hl
  exact lv_istore hx hb hd hl hn hl0 (fun ls' hl' => h H locs ls' hP hS hl')
theorem j_lload_n {k : Fin 4} {i : Nat} {x : Int64} (hκ : CF κ g own cc Ts nL rm) (j : Nat) (hj : lv[j]? = some (i, .long x)) (hi : (k : Nat) = i) (hd : decode cc pc = .ok (.lload_n k, 1)) (ep : pc + 1 = pc') (h : Jw κ g nL X M lv pc' (.long x :: st)) : Jw κ g nL X M lv pc (st) := by
  obtain ⟨p, l, e, R, s, m, args, below, meth, c, cells, slots, Q, A⟩ := κ
  obtain ⟨hx, hb, hml, hown, hts, hK, hN, hD, hAA, rfl, hc9, hs9, hg⟩ := hκ
  subst ep
  intro H locs ls hP hS hl
  exact lv_lload_n hx hb hd hi (lv_at hl j hj) (h H locs ls hP hS hl)
theorem j_lload {i : Nat} {x : Int64} (hκ : CF κ g own cc Ts nL rm) (j : Nat) (hj : lv[j]? = some (i, .long x)) (hd : decode cc pc = .ok (.lload i, 2)) (ep : pc + 2 = pc') (h : Jw κ g nL X M lv pc' (.long x :: st)) : Jw κ g nL X M lv pc (st) := by
  obtain ⟨p, l, e, R, s, m, args, below, meth, c, cells, slots, Q, A⟩ := κ
  obtain ⟨hx, hb, hml, hown, hts, hK, hN, hD, hAA, rfl, hc9, hs9, hg⟩ := hκ
  subst ep
  intro H locs ls hP hS hl
  exact lv_lload hx hb hd (lv_at hl j hj) (h H locs ls hP hS hl)
theorem j_lstore_n {k : Fin 4} {i : Nat} {x : Int64} {lv' : List (Nat × Value)} (hκ : CF κ g own cc Ts nL rm) (hn : i + 1 < nL) (hl0 : (i, Value.long x) :: lv.filter (fun q => !(q.1 == i) && (!(q.1 == i + 1) && !(q.1 + 1 == i && q.2.category == 2))) = lv') (hi : (k : Nat) = i) (hd : decode cc pc = .ok (.lstore_n k, 1)) (ep : pc + 1 = pc') (h : Jw κ g nL X M lv' pc' st) : Jw κ g nL X M lv pc (.long x :: st) := by
  obtain ⟨p, l, e, R, s, m, args, below, meth, c, cells, slots, Q, A⟩ := κ
  obtain ⟨hx, hb, hml, hown, hts, hK, hN, hD, hAA, rfl, hc9, hs9, hg⟩ := hκ
  subst ep
  intro H locs ls hP hS hl
  exact lv_lstore_n hx hb hd hi hl hn hl0 (fun ls' hl' => h H locs ls' hP hS hl')
theorem j_lstore {i : Nat} {x : Int64} {lv' : List (Nat × Value)} (hκ : CF κ g own cc Ts nL rm) (hn : i + 1 < nL) (hl0 : (i, Value.long x) :: lv.filter (fun q => !(q.1 == i) && (!(q.1 == i + 1) && !(q.1 + 1 == i && q.2.category == 2))) = lv') (hd : decode cc pc = .ok (.lstore i, 2)) (ep : pc + 2 = pc') (h : Jw κ g nL X M lv' pc' st) : Jw κ g nL X M lv pc (.long x :: st) := by
  obtain ⟨p, l, e, R, s, m, args, below, meth, c, cells, slots, Q, A⟩ := κ
  obtain ⟨hx, hb, hml, hown, hts, hK, hN, hD, hAA, rfl, hc9, hs9, hg⟩ := hκ
  subst ep
  intro H locs ls hP hS hl
  exact lv_lstore hx hb hd hl hn hl0 (fun ls' hl' => h H locs ls' hP hS hl')
theorem j_aload_n {k : Fin 4} {i : Nat} {x : Nat} (hκ : CF κ g own cc Ts nL rm) (j : Nat) (hj : lv[j]? = some (i, .ref x)) (hi : (k : Nat) = i) (hd : decode cc pc = .ok (.aload_n k, 1)) (ep : pc + 1 = pc') (h : Jw κ g nL X M lv pc' (.ref x :: st)) : Jw κ g nL X M lv pc (st) := by
  obtain ⟨p, l, e, R, s, m, args, below, meth, c, cells, slots, Q, A⟩ := κ
  obtain ⟨hx, hb, hml, hown, hts, hK, hN, hD, hAA, rfl, hc9, hs9, hg⟩ := hκ
  subst ep
  intro H locs ls hP hS hl
  exact lv_aload_n hx hb hd hi (lv_at hl j hj) (h H locs ls hP hS hl)
theorem j_aload {i : Nat} {x : Nat} (hκ : CF κ g own cc Ts nL rm) (j : Nat) (hj : lv[j]? = some (i, .ref x)) (hd : decode cc pc = .ok (.aload i, 2)) (ep : pc + 2 = pc') (h : Jw κ g nL X M lv pc' (.ref x :: st)) : Jw κ g nL X M lv pc (st) := by
  obtain ⟨p, l, e, R, s, m, args, below, meth, c, cells, slots, Q, A⟩ := κ
  obtain ⟨hx, hb, hml, hown, hts, hK, hN, hD, hAA, rfl, hc9, hs9, hg⟩ := hκ
  subst ep
  intro H locs ls hP hS hl
  exact lv_aload hx hb hd (lv_at hl j hj) (h H locs ls hP hS hl)
theorem j_astore_n {k : Fin 4} {i : Nat} {x : Nat} {lv' : List (Nat × Value)} (hκ : CF κ g own cc Ts nL rm) (hn : i < nL) (hl0 : (i, Value.ref x) :: lv.filter (fun q => !(q.1 == i) && !(q.1 + 1 == i && q.2.category == 2)) = lv') (hi : (k : Nat) = i) (hd : decode cc pc = .ok (.astore_n k, 1)) (ep : pc + 1 = pc') (h : Jw κ g nL X M lv' pc' st) : Jw κ g nL X M lv pc (.ref x :: st) := by
  obtain ⟨p, l, e, R, s, m, args, below, meth, c, cells, slots, Q, A⟩ := κ
  obtain ⟨hx, hb, hml, hown, hts, hK, hN, hD, hAA, rfl, hc9, hs9, hg⟩ := hκ
  subst ep
  intro H locs ls hP hS hl
  exact lv_astore_n hx hb hd hi hl hn hl0 (fun ls' hl' => h H locs ls' hP hS hl')
theorem j_astore {i : Nat} {x : Nat} {lv' : List (Nat × Value)} (hκ : CF κ g own cc Ts nL rm) (hn : i < nL) (hl0 : (i, Value.ref x) :: lv.filter (fun q => !(q.1 == i) && !(q.1 + 1 == i && q.2.category == 2)) = lv') (hd : decode cc pc = .ok (.astore i, 2)) (ep : pc + 2 = pc') (h : Jw κ g nL X M lv' pc' st) : Jw κ g nL X M lv pc (.ref x :: st) := by
  obtain ⟨p, l, e, R, s, m, args, below, meth, c, cells, slots, Q, A⟩ := κ
  obtain ⟨hx, hb, hml, hown, hts, hK, hN, hD, hAA, rfl, hc9, hs9, hg⟩ := hκ
  subst ep
  intro H locs ls hP hS hl
  exact lv_astore hx hb hd hl hn hl0 (fun ls' hl' => h H locs ls' hP hS hl')
theorem j_iinc {i : Nat} {n : Int} {x v : Int32} {lv' : List (Nat × Value)} (hκ : CF κ g own cc Ts nL rm) (j : Nat) (hj : lv[j]? = some (i, .int x)) (hv : x + Int32.ofInt n = v) (hn : i < nL) (hl0 : (i, Value.int v) :: lv.filter (fun q => !(q.1 == i) && !(q.1 + 1 == i && q.2.category == 2)) = lv') (hd : decode cc pc = .ok (.iinc i n, 3)) (ep : pc + 3 = pc') (h : Jw κ g nL X M lv' pc' st) : Jw κ g nL X M lv pc st := by
  obtain ⟨p, l, e, R, s, m, args, below, meth, c, cells, slots, Q, A⟩ := κ
  obtain ⟨hx, hb, hml, hown, hts, hK, hN, hD, hAA, rfl, hc9, hs9, hg⟩ := hκ
  subst ep
  intro H locs ls hP hS hl
  exact lv_iinc hx hb hd hl hj hv hn hl0 (fun ls' hl' => h H locs ls' hP hS hl')
theorem j_dup {v : Value} (hκ : CF κ g own cc Ts nL rm) (hv : v.category = 1) (hd : decode cc pc = .ok (.dup, 1)) (ep : pc + 1 = pc') (h : Jw κ g nL X M lv pc' (v :: v :: st)) : Jw κ g nL X M lv pc (v :: st) := by
  obtain ⟨p, l, e, R, s, m, args, below, meth, c, cells, slots, Q, A⟩ := κ
  obtain ⟨hx, hb, hml, hown, hts, hK, hN, hD, hAA, rfl, hc9, hs9, hg⟩ := hκ
  subst ep
  intro H locs ls hP hS hl
  exact lv_dup hx hb hd hv (h H locs ls hP hS hl)
theorem j_pop {v : Value} (hκ : CF κ g own cc Ts nL rm) (hv : v.category = 1) (hd : decode cc pc = .ok (.pop, 1)) (ep : pc + 1 = pc') (h : Jw κ g nL X M lv pc' (st)) : Jw κ g nL X M lv pc (v :: st) := by
  obtain ⟨p, l, e, R, s, m, args, below, meth, c, cells, slots, Q, A⟩ := κ
  obtain ⟨hx, hb, hml, hown, hts, hK, hN, hD, hAA, rfl, hc9, hs9, hg⟩ := hκ
  subst ep
  intro H locs ls hP hS hl
  exact lv_pop hx hb hd hv (h H locs ls hP hS hl)
theorem j_dup2 {v u : Value} (hκ : CF κ g own cc Ts nL rm) (hv : v.category = 1) (hu : u.category = 1) (hd : decode cc pc = .ok (.dup2, 1)) (ep : pc + 1 = pc') (h : Jw κ g nL X M lv pc' (v :: u :: v :: u :: st)) : Jw κ g nL X M lv pc (v :: u :: st) := by
  obtain ⟨p, l, e, R, s, m, args, below, meth, c, cells, slots, Q, A⟩ := κ
  obtain ⟨hx, hb, hml, hown, hts, hK, hN, hD, hAA, rfl, hc9, hs9, hg⟩ := hκ
  subst ep
  intro H locs ls hP hS hl
  exact lv_dup2_11 hx hb hd hv hu (h H locs ls hP hS hl)
theorem j_dup2l {v : Value} (hκ : CF κ g own cc Ts nL rm) (hv : v.category = 2) (hd : decode cc pc = .ok (.dup2, 1)) (ep : pc + 1 = pc') (h : Jw κ g nL X M lv pc' (v :: v :: st)) : Jw κ g nL X M lv pc (v :: st) := by
  obtain ⟨p, l, e, R, s, m, args, below, meth, c, cells, slots, Q, A⟩ := κ
  obtain ⟨hx, hb, hml, hown, hts, hK, hN, hD, hAA, rfl, hc9, hs9, hg⟩ := hκ
  subst ep
  intro H locs ls hP hS hl
  exact lv_dup2_2 hx hb hd hv (h H locs ls hP hS hl)
theorem j_goto {off : Int} (hκ : CF κ g own cc Ts nL rm) (ht : (pc : Int) + off = (pc' : Int)) (hd : decode cc pc = .ok (.goto off, 3)) (h : Jw κ g nL X M lv pc' st) : Jw κ g nL X M lv pc st := by
  obtain ⟨p, l, e, R, s, m, args, below, meth, c, cells, slots, Q, A⟩ := κ
  obtain ⟨hx, hb, hml, hown, hts, hK, hN, hD, hAA, rfl, hc9, hs9, hg⟩ := hκ
  intro H locs ls hP hS hl
  exact lv_goto hx hb hd ht (h H locs ls hP hS hl)
theorem j_if_eq {x : Int32} {off : Int} {tgt : Nat} (hκ : CF κ g own cc Ts nL rm) (hd : decode cc pc = .ok (.ifCond .eq off, 3)) (ht : (pc : Int) + off = (tgt : Int)) (ep : pc + 3 = pc') (kt : x = 0 → Jw κ g nL X M lv tgt st) (kf : ¬ x = 0 → Jw κ g nL X M lv pc' st) : Jw κ g nL X M lv pc (.int x :: st) := by
  obtain ⟨p, l, e, R, s, m, args, below, meth, c, cells, slots, Q, A⟩ := κ
  obtain ⟨hx, hb, hml, hown, hts, hK, hN, hD, hAA, rfl, hc9, hs9, hg⟩ := hκ
  subst ep
  intro H locs ls hP hS hl
  exact lv_if_eq hx hb hd ht (fun q => kt q H locs ls hP hS hl) (fun q => kf q H locs ls hP hS hl)
theorem j_icmp_eq {x y : Int32} {off : Int} {tgt : Nat} (hκ : CF κ g own cc Ts nL rm) (hd : decode cc pc = .ok (.if_icmp .eq off, 3)) (ht : (pc : Int) + off = (tgt : Int)) (ep : pc + 3 = pc') (kt : x = y → Jw κ g nL X M lv tgt st) (kf : ¬ x = y → Jw κ g nL X M lv pc' st) : Jw κ g nL X M lv pc (.int y :: .int x :: st) := by
  obtain ⟨p, l, e, R, s, m, args, below, meth, c, cells, slots, Q, A⟩ := κ
  obtain ⟨hx, hb, hml, hown, hts, hK, hN, hD, hAA, rfl, hc9, hs9, hg⟩ := hκ
  subst ep
  intro H locs ls hP hS hl
  exact lv_icmp_eq hx hb hd ht (fun q => kt q H locs ls hP hS hl) (fun q => kf q H locs ls hP hS hl)
theorem j_lc_eq {x y : Int64} {off : Int} {tgt pc1 : Nat} (hκ : CF κ g own cc Ts nL rm) (hd1 : decode cc pc = .ok (.lcmp, 1)) (e1 : pc + 1 = pc1) (hd : decode cc pc1 = .ok (.ifCond .eq off, 3)) (ht : (pc1 : Int) + off = (tgt : Int)) (ep : pc1 + 3 = pc') (kt : x = y → Jw κ g nL X M lv tgt st) (kf : ¬ x = y → Jw κ g nL X M lv pc' st) : Jw κ g nL X M lv pc (.long y :: .long x :: st) :=
  j_lcmp hκ hd1 e1 (j_if_eq hκ hd ht ep (fun q => kt ((lg_cmp_eq x y).mp q)) (fun q => kf (fun z => q ((lg_cmp_eq x y).mpr z))))
theorem j_if_ne {x : Int32} {off : Int} {tgt : Nat} (hκ : CF κ g own cc Ts nL rm) (hd : decode cc pc = .ok (.ifCond .ne off, 3)) (ht : (pc : Int) + off = (tgt : Int)) (ep : pc + 3 = pc') (kt : ¬ x = 0 → Jw κ g nL X M lv tgt st) (kf : x = 0 → Jw κ g nL X M lv pc' st) : Jw κ g nL X M lv pc (.int x :: st) := by
  obtain ⟨p, l, e, R, s, m, args, below, meth, c, cells, slots, Q, A⟩ := κ
  obtain ⟨hx, hb, hml, hown, hts, hK, hN, hD, hAA, rfl, hc9, hs9, hg⟩ := hκ
  subst ep
  intro H locs ls hP hS hl
  exact lv_if_ne hx hb hd ht (fun q => kt q H locs ls hP hS hl) (fun q => kf q H locs ls hP hS hl)
theorem j_icmp_ne {x y : Int32} {off : Int} {tgt : Nat} (hκ : CF κ g own cc Ts nL rm) (hd : decode cc pc = .ok (.if_icmp .ne off, 3)) (ht : (pc : Int) + off = (tgt : Int)) (ep : pc + 3 = pc') (kt : ¬ x = y → Jw κ g nL X M lv tgt st) (kf : x = y → Jw κ g nL X M lv pc' st) : Jw κ g nL X M lv pc (.int y :: .int x :: st) := by
  obtain ⟨p, l, e, R, s, m, args, below, meth, c, cells, slots, Q, A⟩ := κ
  obtain ⟨hx, hb, hml, hown, hts, hK, hN, hD, hAA, rfl, hc9, hs9, hg⟩ := hκ
  subst ep
  intro H locs ls hP hS hl
  exact lv_icmp_ne hx hb hd ht (fun q => kt q H locs ls hP hS hl) (fun q => kf q H locs ls hP hS hl)
theorem j_lc_ne {x y : Int64} {off : Int} {tgt pc1 : Nat} (hκ : CF κ g own cc Ts nL rm) (hd1 : decode cc pc = .ok (.lcmp, 1)) (e1 : pc + 1 = pc1) (hd : decode cc pc1 = .ok (.ifCond .ne off, 3)) (ht : (pc1 : Int) + off = (tgt : Int)) (ep : pc1 + 3 = pc') (kt : ¬ x = y → Jw κ g nL X M lv tgt st) (kf : x = y → Jw κ g nL X M lv pc' st) : Jw κ g nL X M lv pc (.long y :: .long x :: st) :=
  j_lcmp hκ hd1 e1 (j_if_ne hκ hd ht ep (fun q => kt (fun z => q ((lg_cmp_eq x y).mpr z))) (fun q => kf ((lg_cmp_eq x y).mp q)))
theorem j_if_lt {x : Int32} {off : Int} {tgt : Nat} (hκ : CF κ g own cc Ts nL rm) (hd : decode cc pc = .ok (.ifCond .lt off, 3)) (ht : (pc : Int) + off = (tgt : Int)) (ep : pc + 3 = pc') (kt : x < 0 → Jw κ g nL X M lv tgt st) (kf : ¬ x < 0 → Jw κ g nL X M lv pc' st) : Jw κ g nL X M lv pc (.int x :: st) := by
  obtain ⟨p, l, e, R, s, m, args, below, meth, c, cells, slots, Q, A⟩ := κ
  obtain ⟨hx, hb, hml, hown, hts, hK, hN, hD, hAA, rfl, hc9, hs9, hg⟩ := hκ
  subst ep
  intro H locs ls hP hS hl
  exact lv_if_lt hx hb hd ht (fun q => kt q H locs ls hP hS hl) (fun q => kf q H locs ls hP hS hl)
theorem j_icmp_lt {x y : Int32} {off : Int} {tgt : Nat} (hκ : CF κ g own cc Ts nL rm) (hd : decode cc pc = .ok (.if_icmp .lt off, 3)) (ht : (pc : Int) + off = (tgt : Int)) (ep : pc + 3 = pc') (kt : x < y → Jw κ g nL X M lv tgt st) (kf : ¬ x < y → Jw κ g nL X M lv pc' st) : Jw κ g nL X M lv pc (.int y :: .int x :: st) := by
  obtain ⟨p, l, e, R, s, m, args, below, meth, c, cells, slots, Q, A⟩ := κ
  obtain ⟨hx, hb, hml, hown, hts, hK, hN, hD, hAA, rfl, hc9, hs9, hg⟩ := hκ
  subst ep
  intro H locs ls hP hS hl
  exact lv_icmp_lt hx hb hd ht (fun q => kt q H locs ls hP hS hl) (fun q => kf q H locs ls hP hS hl)
theorem j_lc_lt {x y : Int64} {off : Int} {tgt pc1 : Nat} (hκ : CF κ g own cc Ts nL rm) (hd1 : decode cc pc = .ok (.lcmp, 1)) (e1 : pc + 1 = pc1) (hd : decode cc pc1 = .ok (.ifCond .lt off, 3)) (ht : (pc1 : Int) + off = (tgt : Int)) (ep : pc1 + 3 = pc') (kt : x < y → Jw κ g nL X M lv tgt st) (kf : ¬ x < y → Jw κ g nL X M lv pc' st) : Jw κ g nL X M lv pc (.long y :: .long x :: st) :=
  j_lcmp hκ hd1 e1 (j_if_lt hκ hd ht ep (fun q => kt ((lg_cmp_lt x y).mp q)) (fun q => kf (fun z => q ((lg_cmp_lt x y).mpr z))))
theorem j_if_ge {x : Int32} {off : Int} {tgt : Nat} (hκ : CF κ g own cc Ts nL rm) (hd : decode cc pc = .ok (.ifCond .ge off, 3)) (ht : (pc : Int) + off = (tgt : Int)) (ep : pc + 3 = pc') (kt : 0 ≤ x → Jw κ g nL X M lv tgt st) (kf : ¬ 0 ≤ x → Jw κ g nL X M lv pc' st) : Jw κ g nL X M lv pc (.int x :: st) := by
  obtain ⟨p, l, e, R, s, m, args, below, meth, c, cells, slots, Q, A⟩ := κ
  obtain ⟨hx, hb, hml, hown, hts, hK, hN, hD, hAA, rfl, hc9, hs9, hg⟩ := hκ
  subst ep
  intro H locs ls hP hS hl
  exact lv_if_ge hx hb hd ht (fun q => kt q H locs ls hP hS hl) (fun q => kf q H locs ls hP hS hl)
theorem j_icmp_ge {x y : Int32} {off : Int} {tgt : Nat} (hκ : CF κ g own cc Ts nL rm) (hd : decode cc pc = .ok (.if_icmp .ge off, 3)) (ht : (pc : Int) + off = (tgt : Int)) (ep : pc + 3 = pc') (kt : y ≤ x → Jw κ g nL X M lv tgt st) (kf : ¬ y ≤ x → Jw κ g nL X M lv pc' st) : Jw κ g nL X M lv pc (.int y :: .int x :: st) := by
  obtain ⟨p, l, e, R, s, m, args, below, meth, c, cells, slots, Q, A⟩ := κ
  obtain ⟨hx, hb, hml, hown, hts, hK, hN, hD, hAA, rfl, hc9, hs9, hg⟩ := hκ
  subst ep
  intro H locs ls hP hS hl
  exact lv_icmp_ge hx hb hd ht (fun q => kt q H locs ls hP hS hl) (fun q => kf q H locs ls hP hS hl)
theorem j_lc_ge {x y : Int64} {off : Int} {tgt pc1 : Nat} (hκ : CF κ g own cc Ts nL rm) (hd1 : decode cc pc = .ok (.lcmp, 1)) (e1 : pc + 1 = pc1) (hd : decode cc pc1 = .ok (.ifCond .ge off, 3)) (ht : (pc1 : Int) + off = (tgt : Int)) (ep : pc1 + 3 = pc') (kt : y ≤ x → Jw κ g nL X M lv tgt st) (kf : ¬ y ≤ x → Jw κ g nL X M lv pc' st) : Jw κ g nL X M lv pc (.long y :: .long x :: st) :=
  j_lcmp hκ hd1 e1 (j_if_ge hκ hd ht ep (fun q => kt ((lg_cmp_ge x y).mp q)) (fun q => kf (fun z => q ((lg_cmp_ge x y).mpr z))))
theorem j_if_gt {x : Int32} {off : Int} {tgt : Nat} (hκ : CF κ g own cc Ts nL rm) (hd : decode cc pc = .ok (.ifCond .gt off, 3)) (ht : (pc : Int) + off = (tgt : Int)) (ep : pc + 3 = pc') (kt : 0 < x → Jw κ g nL X M lv tgt st) (kf : ¬ 0 < x → Jw κ g nL X M lv pc' st) : Jw κ g nL X M lv pc (.int x :: st) := by
  obtain ⟨p, l, e, R, s, m, args, below, meth, c, cells, slots, Q, A⟩ := κ
  obtain ⟨hx, hb, hml, hown, hts, hK, hN, hD, hAA, rfl, hc9, hs9, hg⟩ := hκ
  subst ep
  intro H locs ls hP hS hl
  exact lv_if_gt hx hb hd ht (fun q => kt q H locs ls hP hS hl) (fun q => kf q H locs ls hP hS hl)
theorem j_icmp_gt {x y : Int32} {off : Int} {tgt : Nat} (hκ : CF κ g own cc Ts nL rm) (hd : decode cc pc = .ok (.if_icmp .gt off, 3)) (ht : (pc : Int) + off = (tgt : Int)) (ep : pc + 3 = pc') (kt : y < x → Jw κ g nL X M lv tgt st) (kf : ¬ y < x → Jw κ g nL X M lv pc' st) : Jw κ g nL X M lv pc (.int y :: .int x :: st) := by
  obtain ⟨p, l, e, R, s, m, args, below, meth, c, cells, slots, Q, A⟩ := κ
  obtain ⟨hx, hb, hml, hown, hts, hK, hN, hD, hAA, rfl, hc9, hs9, hg⟩ := hκ
  subst ep
  intro H locs ls hP hS hl
  exact lv_icmp_gt hx hb hd ht (fun q => kt q H locs ls hP hS hl) (fun q => kf q H locs ls hP hS hl)
theorem j_lc_gt {x y : Int64} {off : Int} {tgt pc1 : Nat} (hκ : CF κ g own cc Ts nL rm) (hd1 : decode cc pc = .ok (.lcmp, 1)) (e1 : pc + 1 = pc1) (hd : decode cc pc1 = .ok (.ifCond .gt off, 3)) (ht : (pc1 : Int) + off = (tgt : Int)) (ep : pc1 + 3 = pc') (kt : y < x → Jw κ g nL X M lv tgt st) (kf : ¬ y < x → Jw κ g nL X M lv pc' st) : Jw κ g nL X M lv pc (.long y :: .long x :: st) :=
  j_lcmp hκ hd1 e1 (j_if_gt hκ hd ht ep (fun q => kt ((lg_cmp_gt x y).mp q)) (fun q => kf (fun z => q ((lg_cmp_gt x y).mpr z))))
theorem j_if_le {x : Int32} {off : Int} {tgt : Nat} (hκ : CF κ g own cc Ts nL rm) (hd : decode cc pc = .ok (.ifCond .le off, 3)) (ht : (pc : Int) + off = (tgt : Int)) (ep : pc + 3 = pc') (kt : x ≤ 0 → Jw κ g nL X M lv tgt st) (kf : ¬ x ≤ 0 → Jw κ g nL X M lv pc' st) : Jw κ g nL X M lv pc (.int x :: st) := by
  obtain ⟨p, l, e, R, s, m, args, below, meth, c, cells, slots, Q, A⟩ := κ
  obtain ⟨hx, hb, hml, hown, hts, hK, hN, hD, hAA, rfl, hc9, hs9, hg⟩ := hκ
  subst ep
  intro H locs ls hP hS hl
  exact lv_if_le hx hb hd ht (fun q => kt q H locs ls hP hS hl) (fun q => kf q H locs ls hP hS hl)
theorem j_icmp_le {x y : Int32} {off : Int} {tgt : Nat} (hκ : CF κ g own cc Ts nL rm) (hd : decode cc pc = .ok (.if_icmp .le off, 3)) (ht : (pc : Int) + off = (tgt : Int)) (ep : pc + 3 = pc') (kt : x ≤ y → Jw κ g nL X M lv tgt st) (kf : ¬ x ≤ y → Jw κ g nL X M lv pc' st) : Jw κ g nL X M lv pc (.int y :: .int x :: st) := by
  obtain ⟨p, l, e, R, s, m, args, below, meth, c, cells, slots, Q, A⟩ := κ
  obtain ⟨hx, hb, hml, hown, hts, hK, hN, hD, hAA, rfl, hc9, hs9, hg⟩ := hκ
  subst ep
  intro H locs ls hP hS hl
  exact lv_icmp_le hx hb hd ht (fun q => kt q H locs ls hP hS hl) (fun q => kf q H locs ls hP hS hl)
theorem j_lc_le {x y : Int64} {off : Int} {tgt pc1 : Nat} (hκ : CF κ g own cc Ts nL rm) (hd1 : decode cc pc = .ok (.lcmp, 1)) (e1 : pc + 1 = pc1) (hd : decode cc pc1 = .ok (.ifCond .le off, 3)) (ht : (pc1 : Int) + off = (tgt : Int)) (ep : pc1 + 3 = pc') (kt : x ≤ y → Jw κ g nL X M lv tgt st) (kf : ¬ x ≤ y → Jw κ g nL X M lv pc' st) : Jw κ g nL X M lv pc (.long y :: .long x :: st) :=
  j_lcmp hκ hd1 e1 (j_if_le hκ hd ht ep (fun q => kt ((lg_cmp_le x y).mp q)) (fun q => kf (fun z => q ((lg_cmp_le x y).mpr z))))
theorem j_tabEq {x v : Int32} {dflt lo hi off : Int} {offs : Array Int} {len tgt : Nat} (hκ : CF κ g own cc Ts nL rm) (hd : decode cc pc = .ok (.tableswitch dflt lo hi offs, len)) (hv : x = v) (h1 : ¬ v.toInt < lo) (h2 : ¬ hi < v.toInt) (ho : offs[(v.toInt - lo).toNat]? = some off) (ht : (pc : Int) + off = (tgt : Int)) (h : Jw κ g nL X M lv tgt st) : Jw κ g nL X M lv pc (.int x :: st) := by
  subst hv
  obtain ⟨p, l, e, R, s, m, args, below, meth, c, cells, slots, Q, A⟩ := κ
  obtain ⟨hx, hb, hml, hown, hts, hK, hN, hD, hAA, rfl, hc9, hs9, hg⟩ := hκ
  intro H locs ls hP hS hl
  exact lv_tableIn hx hb hd h1 h2 ho ht (h H locs ls hP hS hl)
theorem j_tabOut {x : Int32} {dflt lo hi : Int} {offs : Array Int} {len tgt : Nat} (hκ : CF κ g own cc Ts nL rm) (hd : decode cc pc = .ok (.tableswitch dflt lo hi offs, len)) (hv : x.toInt < lo ∨ hi < x.toInt) (ht : (pc : Int) + dflt = (tgt : Int)) (h : Jw κ g nL X M lv tgt st) : Jw κ g nL X M lv pc (.int x :: st) := by
  obtain ⟨p, l, e, R, s, m, args, below, meth, c, cells, slots, Q, A⟩ := κ
  obtain ⟨hx, hb, hml, hown, hts, hK, hN, hD, hAA, rfl, hc9, hs9, hg⟩ := hκ
  intro H locs ls hP hS hl
  exact lv_tableOut hx hb hd hv ht (h H locs ls hP hS hl)
theorem j_lkEq {x v : Int32} {dflt off : Int} {ps : Array (Int × Int)} {len tgt : Nat} (hκ : CF κ g own cc Ts nL rm) (hd : decode cc pc = .ok (.lookupswitch dflt ps, len)) (hp : (ps.toList.zip (ps.toList.drop 1)).all (fun (a, next) => a.1 < next.1) = true) (hv : x = v) (ho : Op.lookupswitch.offset ps.toList dflt v.toInt = off) (ht : (pc : Int) + off = (tgt : Int)) (h : Jw κ g nL X M lv tgt st) : Jw κ g nL X M lv pc (.int x :: st) := by
  subst hv
  obtain ⟨p, l, e, R, s, m, args, below, meth, c, cells, slots, Q, A⟩ := κ
  obtain ⟨hx, hb, hml, hown, hts, hK, hN, hD, hAA, rfl, hc9, hs9, hg⟩ := hκ
  intro H locs ls hP hS hl
  exact lv_lookup hx hb hd hp ho ht (h H locs ls hP hS hl)
theorem j_lk {x : Int32} {dflt off : Int} {ps : Array (Int × Int)} {len tgt : Nat} (hκ : CF κ g own cc Ts nL rm) (hd : decode cc pc = .ok (.lookupswitch dflt ps, len)) (hp : (ps.toList.zip (ps.toList.drop 1)).all (fun (a, next) => a.1 < next.1) = true) (ho : Op.lookupswitch.offset ps.toList dflt x.toInt = off) (ht : (pc : Int) + off = (tgt : Int)) (h : Jw κ g nL X M lv tgt st) : Jw κ g nL X M lv pc (.int x :: st) := by
  obtain ⟨p, l, e, R, s, m, args, below, meth, c, cells, slots, Q, A⟩ := κ
  obtain ⟨hx, hb, hml, hown, hts, hK, hN, hD, hAA, rfl, hc9, hs9, hg⟩ := hκ
  intro H locs ls hP hS hl
  exact lv_lookup hx hb hd hp ho ht (h H locs ls hP hS hl)
end JR
