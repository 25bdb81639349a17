theorem tb_1 {w : Cond} (h : w ∈ tables_1_1) : w ∈ lw_tbl := List.mem_append_right _ (List.mem_append_left _ h)
theorem tb_2 {w : Cond} (h : w ∈ tables_1_2) : w ∈ lw_tbl := List.mem_append_right _ (List.mem_append_right _ (List.mem_append_left _ h))
theorem tb_3 {w : Cond} (h : w ∈ tables_1_3) : w ∈ lw_tbl := List.mem_append_right _ (List.mem_append_right _ (List.mem_append_right _ (List.mem_append_left _ h)))
theorem tb_4 {w : Cond} (h : w ∈ tables_1_4) : w ∈ lw_tbl := List.mem_append_right _ (List.mem_append_right _ (List.mem_append_right _ (List.mem_append_right _ (List.mem_append_left _ h))))
theorem tb_5 {w : Cond} (h : w ∈ tables_1_5) : w ∈ lw_tbl := List.mem_append_right _ (List.mem_append_right _ (List.mem_append_right _ (List.mem_append_right _ (List.mem_append_right _ (List.mem_append_left _ h)))))
theorem tb_6 {w : Cond} (h : w ∈ tables_1_6) : w ∈ lw_tbl := List.mem_append_right _ (List.mem_append_right _ (List.mem_append_right _ (List.mem_append_right _ (List.mem_append_right _ (List.mem_append_right _ (h))))))
theorem sp_1 {q : MethodName × Nat} (h : q ∈ lw_privs_1) : Cond.selects q.1.cls q.1 q.1 ∈ lw_tbl := List.mem_append_left _ (List.mem_map.mpr ⟨q, List.mem_append_left _ h, rfl⟩)
theorem sp_2 {q : MethodName × Nat} (h : q ∈ lw_privs_2) : Cond.selects q.1.cls q.1 q.1 ∈ lw_tbl := List.mem_append_left _ (List.mem_map.mpr ⟨q, List.mem_append_right _ (List.mem_append_left _ h), rfl⟩)
theorem sp_3 {q : MethodName × Nat} (h : q ∈ lw_privs_3) : Cond.selects q.1.cls q.1 q.1 ∈ lw_tbl := List.mem_append_left _ (List.mem_map.mpr ⟨q, List.mem_append_right _ (List.mem_append_right _ (List.mem_append_left _ h)), rfl⟩)
theorem sp_4 {q : MethodName × Nat} (h : q ∈ lw_privs_4) : Cond.selects q.1.cls q.1 q.1 ∈ lw_tbl := List.mem_append_left _ (List.mem_map.mpr ⟨q, List.mem_append_right _ (List.mem_append_right _ (List.mem_append_right _ (List.mem_append_left _ h))), rfl⟩)
theorem sp_5 {q : MethodName × Nat} (h : q ∈ lw_privs_5) : Cond.selects q.1.cls q.1 q.1 ∈ lw_tbl := List.mem_append_left _ (List.mem_map.mpr ⟨q, List.mem_append_right _ (List.mem_append_right _ (List.mem_append_right _ (List.mem_append_right _ (h)))), rfl⟩)
set_option maxRecDepth 20000 in
theorem rl_1 : ∀ w ∈ wsL_law_r1, w ∈ lw_tbl := List.forall_mem_cons.mpr ⟨tb_1 (List.mem_of_getElem? (i := 15) rfl), List.forall_mem_cons.mpr ⟨tb_1 (List.mem_of_getElem? (i := 16) rfl), List.forall_mem_cons.mpr ⟨tb_1 (List.mem_of_getElem? (i := 1) rfl), List.forall_mem_cons.mpr ⟨tb_4 (List.mem_of_getElem? (i := 222) rfl), List.forall_mem_cons.mpr ⟨tb_4 (List.mem_of_getElem? (i := 223) rfl), List.forall_mem_cons.mpr ⟨tb_1 (List.mem_of_getElem? (i := 12) rfl), List.forall_mem_cons.mpr ⟨tb_6 (List.mem_of_getElem? (i := 183) rfl), List.forall_mem_cons.mpr ⟨tb_1 (List.mem_of_getElem? (i := 17) rfl), List.forall_mem_cons.mpr ⟨tb_1 (List.mem_of_getElem? (i := 18) rfl), List.forall_mem_cons.mpr ⟨tb_1 (List.mem_of_getElem? (i := 19) rfl), List.forall_mem_cons.mpr ⟨tb_1 (List.mem_of_getElem? (i := 20) rfl), List.forall_mem_cons.mpr ⟨tb_1 (List.mem_of_getElem? (i := 21) rfl), List.forall_mem_cons.mpr ⟨tb_1 (List.mem_of_getElem? (i := 22) rfl), List.forall_mem_cons.mpr ⟨tb_1 (List.mem_of_getElem? (i := 23) rfl), List.forall_mem_cons.mpr ⟨tb_1 (List.mem_of_getElem? (i := 24) rfl), List.forall_mem_cons.mpr ⟨tb_1 (List.mem_of_getElem? (i := 2) rfl), List.forall_mem_cons.mpr ⟨tb_2 (List.mem_of_getElem? (i := 76) rfl), List.forall_mem_cons.mpr ⟨tb_1 (List.mem_of_getElem? (i := 49) rfl), List.forall_mem_cons.mpr ⟨tb_1 (List.mem_of_getElem? (i := 50) rfl), List.forall_mem_cons.mpr ⟨tb_1 (List.mem_of_getElem? (i := 4) rfl), List.forall_mem_cons.mpr ⟨tb_2 (List.mem_of_getElem? (i := 77) rfl), List.forall_mem_cons.mpr ⟨tb_1 (List.mem_of_getElem? (i := 85) rfl), List.forall_mem_cons.mpr ⟨tb_1 (List.mem_of_getElem? (i := 86) rfl), List.forall_mem_cons.mpr ⟨tb_1 (List.mem_of_getElem? (i := 5) rfl), fun _ h => absurd h List.not_mem_nil⟩⟩⟩⟩⟩⟩⟩⟩⟩⟩⟩⟩⟩⟩⟩⟩⟩⟩⟩⟩⟩⟩⟩⟩
set_option maxRecDepth 20000 in
theorem rl_2 : ∀ w ∈ wsL_law_r2, w ∈ lw_tbl := List.forall_mem_cons.mpr ⟨tb_2 (List.mem_of_getElem? (i := 78) rfl), List.forall_mem_cons.mpr ⟨tb_1 (List.mem_of_getElem? (i := 144) rfl), List.forall_mem_cons.mpr ⟨tb_1 (List.mem_of_getElem? (i := 145) rfl), List.forall_mem_cons.mpr ⟨tb_1 (List.mem_of_getElem? (i := 6) rfl), List.forall_mem_cons.mpr ⟨tb_2 (List.mem_of_getElem? (i := 79) rfl), List.forall_mem_cons.mpr ⟨tb_1 (List.mem_of_getElem? (i := 162) rfl), List.forall_mem_cons.mpr ⟨tb_1 (List.mem_of_getElem? (i := 163) rfl), List.forall_mem_cons.mpr ⟨tb_1 (List.mem_of_getElem? (i := 7) rfl), List.forall_mem_cons.mpr ⟨tb_2 (List.mem_of_getElem? (i := 80) rfl), List.forall_mem_cons.mpr ⟨tb_1 (List.mem_of_getElem? (i := 207) rfl), List.forall_mem_cons.mpr ⟨tb_1 (List.mem_of_getElem? (i := 208) rfl), List.forall_mem_cons.mpr ⟨tb_1 (List.mem_of_getElem? (i := 8) rfl), List.forall_mem_cons.mpr ⟨tb_2 (List.mem_of_getElem? (i := 81) rfl), List.forall_mem_cons.mpr ⟨tb_1 (List.mem_of_getElem? (i := 237) rfl), List.forall_mem_cons.mpr ⟨tb_1 (List.mem_of_getElem? (i := 238) rfl), List.forall_mem_cons.mpr ⟨tb_1 (List.mem_of_getElem? (i := 9) rfl), List.forall_mem_cons.mpr ⟨tb_2 (List.mem_of_getElem? (i := 82) rfl), List.forall_mem_cons.mpr ⟨tb_2 (List.mem_of_getElem? (i := 33) rfl), List.forall_mem_cons.mpr ⟨tb_2 (List.mem_of_getElem? (i := 34) rfl), List.forall_mem_cons.mpr ⟨tb_1 (List.mem_of_getElem? (i := 10) rfl), List.forall_mem_cons.mpr ⟨tb_2 (List.mem_of_getElem? (i := 83) rfl), List.forall_mem_cons.mpr ⟨tb_2 (List.mem_of_getElem? (i := 49) rfl), List.forall_mem_cons.mpr ⟨tb_2 (List.mem_of_getElem? (i := 50) rfl), List.forall_mem_cons.mpr ⟨tb_1 (List.mem_of_getElem? (i := 11) rfl), fun _ h => absurd h List.not_mem_nil⟩⟩⟩⟩⟩⟩⟩⟩⟩⟩⟩⟩⟩⟩⟩⟩⟩⟩⟩⟩⟩⟩⟩⟩
set_option maxRecDepth 20000 in
theorem rl_3 : ∀ w ∈ wsL_law_r3, w ∈ lw_tbl := List.forall_mem_cons.mpr ⟨tb_2 (List.mem_of_getElem? (i := 84) rfl), List.forall_mem_cons.mpr ⟨tb_2 (List.mem_of_getElem? (i := 85) rfl), List.forall_mem_cons.mpr ⟨tb_1 (List.mem_of_getElem? (i := 25) rfl), List.forall_mem_cons.mpr ⟨tb_1 (List.mem_of_getElem? (i := 26) rfl), List.forall_mem_cons.mpr ⟨tb_1 (List.mem_of_getElem? (i := 27) rfl), List.forall_mem_cons.mpr ⟨tb_1 (List.mem_of_getElem? (i := 28) rfl), List.forall_mem_cons.mpr ⟨tb_1 (List.mem_of_getElem? (i := 29) rfl), List.forall_mem_cons.mpr ⟨tb_1 (List.mem_of_getElem? (i := 47) rfl), List.forall_mem_cons.mpr ⟨tb_1 (List.mem_of_getElem? (i := 34) rfl), List.forall_mem_cons.mpr ⟨tb_1 (List.mem_of_getElem? (i := 48) rfl), List.forall_mem_cons.mpr ⟨tb_1 (List.mem_of_getElem? (i := 36) rfl), List.forall_mem_cons.mpr ⟨tb_1 (List.mem_of_getElem? (i := 38) rfl), List.forall_mem_cons.mpr ⟨tb_1 (List.mem_of_getElem? (i := 31) rfl), List.forall_mem_cons.mpr ⟨tb_1 (List.mem_of_getElem? (i := 32) rfl), List.forall_mem_cons.mpr ⟨tb_1 (List.mem_of_getElem? (i := 3) rfl), List.forall_mem_cons.mpr ⟨tb_1 (List.mem_of_getElem? (i := 33) rfl), List.forall_mem_cons.mpr ⟨tb_1 (List.mem_of_getElem? (i := 52) rfl), List.forall_mem_cons.mpr ⟨tb_1 (List.mem_of_getElem? (i := 53) rfl), List.forall_mem_cons.mpr ⟨tb_1 (List.mem_of_getElem? (i := 54) rfl), List.forall_mem_cons.mpr ⟨tb_1 (List.mem_of_getElem? (i := 57) rfl), List.forall_mem_cons.mpr ⟨tb_1 (List.mem_of_getElem? (i := 59) rfl), List.forall_mem_cons.mpr ⟨tb_1 (List.mem_of_getElem? (i := 61) rfl), List.forall_mem_cons.mpr ⟨tb_1 (List.mem_of_getElem? (i := 84) rfl), List.forall_mem_cons.mpr ⟨tb_1 (List.mem_of_getElem? (i := 63) rfl), fun _ h => absurd h List.not_mem_nil⟩⟩⟩⟩⟩⟩⟩⟩⟩⟩⟩⟩⟩⟩⟩⟩⟩⟩⟩⟩⟩⟩⟩⟩
set_option maxRecDepth 20000 in
theorem rl_4 : ∀ w ∈ wsL_law_r4, w ∈ lw_tbl := List.forall_mem_cons.mpr ⟨tb_1 (List.mem_of_getElem? (i := 55) rfl), List.forall_mem_cons.mpr ⟨tb_1 (List.mem_of_getElem? (i := 65) rfl), List.forall_mem_cons.mpr ⟨tb_1 (List.mem_of_getElem? (i := 66) rfl), List.forall_mem_cons.mpr ⟨tb_1 (List.mem_of_getElem? (i := 67) rfl), List.forall_mem_cons.mpr ⟨tb_1 (List.mem_of_getElem? (i := 87) rfl), List.forall_mem_cons.mpr ⟨tb_1 (List.mem_of_getElem? (i := 88) rfl), List.forall_mem_cons.mpr ⟨tb_1 (List.mem_of_getElem? (i := 89) rfl), List.forall_mem_cons.mpr ⟨tb_1 (List.mem_of_getElem? (i := 90) rfl), List.forall_mem_cons.mpr ⟨tb_1 (List.mem_of_getElem? (i := 93) rfl), List.forall_mem_cons.mpr ⟨tb_1 (List.mem_of_getElem? (i := 95) rfl), List.forall_mem_cons.mpr ⟨tb_1 (List.mem_of_getElem? (i := 97) rfl), List.forall_mem_cons.mpr ⟨tb_1 (List.mem_of_getElem? (i := 98) rfl), List.forall_mem_cons.mpr ⟨tb_1 (List.mem_of_getElem? (i := 101) rfl), List.forall_mem_cons.mpr ⟨tb_1 (List.mem_of_getElem? (i := 103) rfl), List.forall_mem_cons.mpr ⟨tb_1 (List.mem_of_getElem? (i := 91) rfl), List.forall_mem_cons.mpr ⟨tb_1 (List.mem_of_getElem? (i := 107) rfl), List.forall_mem_cons.mpr ⟨tb_1 (List.mem_of_getElem? (i := 111) rfl), List.forall_mem_cons.mpr ⟨tb_1 (List.mem_of_getElem? (i := 114) rfl), List.forall_mem_cons.mpr ⟨tb_1 (List.mem_of_getElem? (i := 119) rfl), List.forall_mem_cons.mpr ⟨tb_1 (List.mem_of_getElem? (i := 92) rfl), List.forall_mem_cons.mpr ⟨tb_1 (List.mem_of_getElem? (i := 146) rfl), List.forall_mem_cons.mpr ⟨tb_1 (List.mem_of_getElem? (i := 147) rfl), List.forall_mem_cons.mpr ⟨tb_1 (List.mem_of_getElem? (i := 148) rfl), List.forall_mem_cons.mpr ⟨tb_1 (List.mem_of_getElem? (i := 149) rfl), fun _ h => absurd h List.not_mem_nil⟩⟩⟩⟩⟩⟩⟩⟩⟩⟩⟩⟩⟩⟩⟩⟩⟩⟩⟩⟩⟩⟩⟩⟩
set_option maxRecDepth 20000 in
theorem rl_5 : ∀ w ∈ wsL_law_r5, w ∈ lw_tbl := List.forall_mem_cons.mpr ⟨tb_1 (List.mem_of_getElem? (i := 151) rfl), List.forall_mem_cons.mpr ⟨tb_1 (List.mem_of_getElem? (i := 153) rfl), List.forall_mem_cons.mpr ⟨tb_1 (List.mem_of_getElem? (i := 150) rfl), List.forall_mem_cons.mpr ⟨tb_1 (List.mem_of_getElem? (i := 164) rfl), List.forall_mem_cons.mpr ⟨tb_1 (List.mem_of_getElem? (i := 165) rfl), List.forall_mem_cons.mpr ⟨tb_1 (List.mem_of_getElem? (i := 166) rfl), List.forall_mem_cons.mpr ⟨tb_1 (List.mem_of_getElem? (i := 167) rfl), List.forall_mem_cons.mpr ⟨tb_1 (List.mem_of_getElem? (i := 170) rfl), List.forall_mem_cons.mpr ⟨tb_1 (List.mem_of_getElem? (i := 172) rfl), List.forall_mem_cons.mpr ⟨tb_1 (List.mem_of_getElem? (i := 174) rfl), List.forall_mem_cons.mpr ⟨tb_1 (List.mem_of_getElem? (i := 175) rfl), List.forall_mem_cons.mpr ⟨tb_1 (List.mem_of_getElem? (i := 176) rfl), List.forall_mem_cons.mpr ⟨tb_1 (List.mem_of_getElem? (i := 178) rfl), List.forall_mem_cons.mpr ⟨tb_1 (List.mem_of_getElem? (i := 180) rfl), List.forall_mem_cons.mpr ⟨tb_1 (List.mem_of_getElem? (i := 182) rfl), List.forall_mem_cons.mpr ⟨tb_1 (List.mem_of_getElem? (i := 168) rfl), List.forall_mem_cons.mpr ⟨tb_1 (List.mem_of_getElem? (i := 184) rfl), List.forall_mem_cons.mpr ⟨tb_1 (List.mem_of_getElem? (i := 169) rfl), List.forall_mem_cons.mpr ⟨tb_1 (List.mem_of_getElem? (i := 210) rfl), List.forall_mem_cons.mpr ⟨tb_1 (List.mem_of_getElem? (i := 211) rfl), List.forall_mem_cons.mpr ⟨tb_1 (List.mem_of_getElem? (i := 212) rfl), List.forall_mem_cons.mpr ⟨tb_1 (List.mem_of_getElem? (i := 213) rfl), List.forall_mem_cons.mpr ⟨tb_1 (List.mem_of_getElem? (i := 216) rfl), List.forall_mem_cons.mpr ⟨tb_1 (List.mem_of_getElem? (i := 219) rfl), fun _ h => absurd h List.not_mem_nil⟩⟩⟩⟩⟩⟩⟩⟩⟩⟩⟩⟩⟩⟩⟩⟩⟩⟩⟩⟩⟩⟩⟩⟩
set_option maxRecDepth 20000 in
theorem rl_6 : ∀ w ∈ wsL_law_r6, w ∈ lw_tbl := List.forall_mem_cons.mpr ⟨tb_1 (List.mem_of_getElem? (i := 220) rfl), List.forall_mem_cons.mpr ⟨tb_1 (List.mem_of_getElem? (i := 221) rfl), List.forall_mem_cons.mpr ⟨tb_1 (List.mem_of_getElem? (i := 222) rfl), List.forall_mem_cons.mpr ⟨tb_1 (List.mem_of_getElem? (i := 239) rfl), List.forall_mem_cons.mpr ⟨tb_2 (List.mem_of_getElem? (i := 0) rfl), List.forall_mem_cons.mpr ⟨tb_2 (List.mem_of_getElem? (i := 1) rfl), List.forall_mem_cons.mpr ⟨tb_2 (List.mem_of_getElem? (i := 2) rfl), List.forall_mem_cons.mpr ⟨tb_2 (List.mem_of_getElem? (i := 5) rfl), List.forall_mem_cons.mpr ⟨tb_2 (List.mem_of_getElem? (i := 6) rfl), List.forall_mem_cons.mpr ⟨tb_2 (List.mem_of_getElem? (i := 8) rfl), List.forall_mem_cons.mpr ⟨tb_2 (List.mem_of_getElem? (i := 9) rfl), List.forall_mem_cons.mpr ⟨tb_2 (List.mem_of_getElem? (i := 10) rfl), List.forall_mem_cons.mpr ⟨tb_2 (List.mem_of_getElem? (i := 12) rfl), List.forall_mem_cons.mpr ⟨tb_2 (List.mem_of_getElem? (i := 13) rfl), List.forall_mem_cons.mpr ⟨tb_2 (List.mem_of_getElem? (i := 3) rfl), List.forall_mem_cons.mpr ⟨tb_2 (List.mem_of_getElem? (i := 4) rfl), List.forall_mem_cons.mpr ⟨tb_2 (List.mem_of_getElem? (i := 35) rfl), List.forall_mem_cons.mpr ⟨tb_2 (List.mem_of_getElem? (i := 36) rfl), List.forall_mem_cons.mpr ⟨tb_2 (List.mem_of_getElem? (i := 37) rfl), List.forall_mem_cons.mpr ⟨tb_2 (List.mem_of_getElem? (i := 38) rfl), List.forall_mem_cons.mpr ⟨tb_2 (List.mem_of_getElem? (i := 39) rfl), List.forall_mem_cons.mpr ⟨tb_2 (List.mem_of_getElem? (i := 40) rfl), List.forall_mem_cons.mpr ⟨tb_2 (List.mem_of_getElem? (i := 41) rfl), List.forall_mem_cons.mpr ⟨tb_2 (List.mem_of_getElem? (i := 52) rfl), fun _ h => absurd h List.not_mem_nil⟩⟩⟩⟩⟩⟩⟩⟩⟩⟩⟩⟩⟩⟩⟩⟩⟩⟩⟩⟩⟩⟩⟩⟩
set_option maxRecDepth 20000 in
theorem rl_7 : ∀ w ∈ wsL_law_r7, w ∈ lw_tbl := List.forall_mem_cons.mpr ⟨tb_2 (List.mem_of_getElem? (i := 53) rfl), List.forall_mem_cons.mpr ⟨tb_2 (List.mem_of_getElem? (i := 54) rfl), List.forall_mem_cons.mpr ⟨tb_2 (List.mem_of_getElem? (i := 55) rfl), List.forall_mem_cons.mpr ⟨tb_2 (List.mem_of_getElem? (i := 58) rfl), List.forall_mem_cons.mpr ⟨tb_2 (List.mem_of_getElem? (i := 61) rfl), List.forall_mem_cons.mpr ⟨tb_2 (List.mem_of_getElem? (i := 64) rfl), List.forall_mem_cons.mpr ⟨tb_4 (List.mem_of_getElem? (i := 224) rfl), List.forall_mem_cons.mpr ⟨tb_4 (List.mem_of_getElem? (i := 225) rfl), List.forall_mem_cons.mpr ⟨tb_4 (List.mem_of_getElem? (i := 226) rfl), List.forall_mem_cons.mpr ⟨tb_4 (List.mem_of_getElem? (i := 227) rfl), List.forall_mem_cons.mpr ⟨tb_4 (List.mem_of_getElem? (i := 234) rfl), List.forall_mem_cons.mpr ⟨tb_4 (List.mem_of_getElem? (i := 235) rfl), List.forall_mem_cons.mpr ⟨tb_4 (List.mem_of_getElem? (i := 236) rfl), List.forall_mem_cons.mpr ⟨tb_4 (List.mem_of_getElem? (i := 237) rfl), List.forall_mem_cons.mpr ⟨tb_4 (List.mem_of_getElem? (i := 238) rfl), List.forall_mem_cons.mpr ⟨tb_4 (List.mem_of_getElem? (i := 239) rfl), List.forall_mem_cons.mpr ⟨tb_5 (List.mem_of_getElem? (i := 0) rfl), List.forall_mem_cons.mpr ⟨tb_5 (List.mem_of_getElem? (i := 1) rfl), List.forall_mem_cons.mpr ⟨tb_5 (List.mem_of_getElem? (i := 3) rfl), List.forall_mem_cons.mpr ⟨tb_5 (List.mem_of_getElem? (i := 4) rfl), List.forall_mem_cons.mpr ⟨tb_5 (List.mem_of_getElem? (i := 5) rfl), List.forall_mem_cons.mpr ⟨tb_5 (List.mem_of_getElem? (i := 6) rfl), List.forall_mem_cons.mpr ⟨tb_5 (List.mem_of_getElem? (i := 7) rfl), List.forall_mem_cons.mpr ⟨tb_5 (List.mem_of_getElem? (i := 9) rfl), fun _ h => absurd h List.not_mem_nil⟩⟩⟩⟩⟩⟩⟩⟩⟩⟩⟩⟩⟩⟩⟩⟩⟩⟩⟩⟩⟩⟩⟩⟩
set_option maxRecDepth 20000 in
theorem rl_8 : ∀ w ∈ wsL_law_r8, w ∈ lw_tbl := List.forall_mem_cons.mpr ⟨tb_5 (List.mem_of_getElem? (i := 11) rfl), List.forall_mem_cons.mpr ⟨tb_5 (List.mem_of_getElem? (i := 12) rfl), List.forall_mem_cons.mpr ⟨tb_5 (List.mem_of_getElem? (i := 13) rfl), List.forall_mem_cons.mpr ⟨tb_5 (List.mem_of_getElem? (i := 14) rfl), List.forall_mem_cons.mpr ⟨tb_5 (List.mem_of_getElem? (i := 15) rfl), List.forall_mem_cons.mpr ⟨tb_5 (List.mem_of_getElem? (i := 16) rfl), List.forall_mem_cons.mpr ⟨tb_5 (List.mem_of_getElem? (i := 17) rfl), List.forall_mem_cons.mpr ⟨tb_5 (List.mem_of_getElem? (i := 18) rfl), List.forall_mem_cons.mpr ⟨tb_5 (List.mem_of_getElem? (i := 19) rfl), List.forall_mem_cons.mpr ⟨tb_5 (List.mem_of_getElem? (i := 21) rfl), List.forall_mem_cons.mpr ⟨tb_5 (List.mem_of_getElem? (i := 22) rfl), List.forall_mem_cons.mpr ⟨tb_5 (List.mem_of_getElem? (i := 24) rfl), List.forall_mem_cons.mpr ⟨tb_5 (List.mem_of_getElem? (i := 25) rfl), List.forall_mem_cons.mpr ⟨tb_5 (List.mem_of_getElem? (i := 26) rfl), List.forall_mem_cons.mpr ⟨tb_5 (List.mem_of_getElem? (i := 27) rfl), List.forall_mem_cons.mpr ⟨tb_4 (List.mem_of_getElem? (i := 228) rfl), List.forall_mem_cons.mpr ⟨tb_4 (List.mem_of_getElem? (i := 230) rfl), List.forall_mem_cons.mpr ⟨sp_3 (q := (yX10_work, 36)) (List.mem_of_getElem? (i := 8) rfl), List.forall_mem_cons.mpr ⟨tb_4 (List.mem_of_getElem? (i := 231) rfl), List.forall_mem_cons.mpr ⟨tb_4 (List.mem_of_getElem? (i := 232) rfl), List.forall_mem_cons.mpr ⟨tb_4 (List.mem_of_getElem? (i := 233) rfl), List.forall_mem_cons.mpr ⟨tb_2 (List.mem_of_getElem? (i := 107) rfl), List.forall_mem_cons.mpr ⟨tb_2 (List.mem_of_getElem? (i := 108) rfl), List.forall_mem_cons.mpr ⟨tb_2 (List.mem_of_getElem? (i := 109) rfl), fun _ h => absurd h List.not_mem_nil⟩⟩⟩⟩⟩⟩⟩⟩⟩⟩⟩⟩⟩⟩⟩⟩⟩⟩⟩⟩⟩⟩⟩⟩
set_option maxRecDepth 20000 in
theorem rl_9 : ∀ w ∈ wsL_law_r9, w ∈ lw_tbl := List.forall_mem_cons.mpr ⟨tb_2 (List.mem_of_getElem? (i := 110) rfl), List.forall_mem_cons.mpr ⟨tb_2 (List.mem_of_getElem? (i := 111) rfl), List.forall_mem_cons.mpr ⟨tb_2 (List.mem_of_getElem? (i := 112) rfl), List.forall_mem_cons.mpr ⟨tb_2 (List.mem_of_getElem? (i := 113) rfl), List.forall_mem_cons.mpr ⟨tb_2 (List.mem_of_getElem? (i := 114) rfl), List.forall_mem_cons.mpr ⟨tb_2 (List.mem_of_getElem? (i := 115) rfl), List.forall_mem_cons.mpr ⟨tb_2 (List.mem_of_getElem? (i := 116) rfl), List.forall_mem_cons.mpr ⟨tb_2 (List.mem_of_getElem? (i := 117) rfl), List.forall_mem_cons.mpr ⟨tb_2 (List.mem_of_getElem? (i := 118) rfl), List.forall_mem_cons.mpr ⟨tb_2 (List.mem_of_getElem? (i := 119) rfl), List.forall_mem_cons.mpr ⟨tb_2 (List.mem_of_getElem? (i := 120) rfl), List.forall_mem_cons.mpr ⟨tb_2 (List.mem_of_getElem? (i := 121) rfl), List.forall_mem_cons.mpr ⟨tb_2 (List.mem_of_getElem? (i := 122) rfl), List.forall_mem_cons.mpr ⟨tb_2 (List.mem_of_getElem? (i := 124) rfl), List.forall_mem_cons.mpr ⟨sp_1 (q := (yX9_lanesChanged, 10)) (List.mem_of_getElem? (i := 0) rfl), List.forall_mem_cons.mpr ⟨tb_2 (List.mem_of_getElem? (i := 125) rfl), List.forall_mem_cons.mpr ⟨tb_2 (List.mem_of_getElem? (i := 126) rfl), List.forall_mem_cons.mpr ⟨tb_2 (List.mem_of_getElem? (i := 127) rfl), List.forall_mem_cons.mpr ⟨tb_2 (List.mem_of_getElem? (i := 128) rfl), List.forall_mem_cons.mpr ⟨tb_2 (List.mem_of_getElem? (i := 129) rfl), List.forall_mem_cons.mpr ⟨tb_2 (List.mem_of_getElem? (i := 130) rfl), List.forall_mem_cons.mpr ⟨tb_2 (List.mem_of_getElem? (i := 132) rfl), List.forall_mem_cons.mpr ⟨sp_1 (q := (yX9_lampsChanged, 10)) (List.mem_of_getElem? (i := 1) rfl), List.forall_mem_cons.mpr ⟨tb_2 (List.mem_of_getElem? (i := 133) rfl), fun _ h => absurd h List.not_mem_nil⟩⟩⟩⟩⟩⟩⟩⟩⟩⟩⟩⟩⟩⟩⟩⟩⟩⟩⟩⟩⟩⟩⟩⟩
set_option maxRecDepth 20000 in
theorem rl_10 : ∀ w ∈ wsL_law_r10, w ∈ lw_tbl := List.forall_mem_cons.mpr ⟨tb_2 (List.mem_of_getElem? (i := 134) rfl), List.forall_mem_cons.mpr ⟨tb_2 (List.mem_of_getElem? (i := 135) rfl), List.forall_mem_cons.mpr ⟨tb_2 (List.mem_of_getElem? (i := 136) rfl), List.forall_mem_cons.mpr ⟨tb_2 (List.mem_of_getElem? (i := 137) rfl), List.forall_mem_cons.mpr ⟨tb_5 (List.mem_of_getElem? (i := 102) rfl), List.forall_mem_cons.mpr ⟨tb_5 (List.mem_of_getElem? (i := 103) rfl), List.forall_mem_cons.mpr ⟨tb_5 (List.mem_of_getElem? (i := 104) rfl), List.forall_mem_cons.mpr ⟨tb_5 (List.mem_of_getElem? (i := 105) rfl), List.forall_mem_cons.mpr ⟨tb_5 (List.mem_of_getElem? (i := 8) rfl), List.forall_mem_cons.mpr ⟨tb_5 (List.mem_of_getElem? (i := 106) rfl), List.forall_mem_cons.mpr ⟨tb_5 (List.mem_of_getElem? (i := 107) rfl), List.forall_mem_cons.mpr ⟨tb_5 (List.mem_of_getElem? (i := 108) rfl), List.forall_mem_cons.mpr ⟨tb_2 (List.mem_of_getElem? (i := 138) rfl), List.forall_mem_cons.mpr ⟨tb_2 (List.mem_of_getElem? (i := 139) rfl), List.forall_mem_cons.mpr ⟨tb_2 (List.mem_of_getElem? (i := 140) rfl), List.forall_mem_cons.mpr ⟨tb_2 (List.mem_of_getElem? (i := 141) rfl), List.forall_mem_cons.mpr ⟨tb_2 (List.mem_of_getElem? (i := 142) rfl), List.forall_mem_cons.mpr ⟨tb_2 (List.mem_of_getElem? (i := 143) rfl), List.forall_mem_cons.mpr ⟨tb_2 (List.mem_of_getElem? (i := 144) rfl), List.forall_mem_cons.mpr ⟨tb_2 (List.mem_of_getElem? (i := 145) rfl), List.forall_mem_cons.mpr ⟨tb_5 (List.mem_of_getElem? (i := 109) rfl), List.forall_mem_cons.mpr ⟨tb_5 (List.mem_of_getElem? (i := 110) rfl), List.forall_mem_cons.mpr ⟨tb_5 (List.mem_of_getElem? (i := 111) rfl), List.forall_mem_cons.mpr ⟨tb_5 (List.mem_of_getElem? (i := 112) rfl), fun _ h => absurd h List.not_mem_nil⟩⟩⟩⟩⟩⟩⟩⟩⟩⟩⟩⟩⟩⟩⟩⟩⟩⟩⟩⟩⟩⟩⟩⟩
set_option maxRecDepth 20000 in
theorem rl_11 : ∀ w ∈ wsL_law_r11, w ∈ lw_tbl := List.forall_mem_cons.mpr ⟨tb_5 (List.mem_of_getElem? (i := 113) rfl), List.forall_mem_cons.mpr ⟨tb_5 (List.mem_of_getElem? (i := 115) rfl), List.forall_mem_cons.mpr ⟨sp_3 (q := (yX10_isLane, 36)) (List.mem_of_getElem? (i := 9) rfl), List.forall_mem_cons.mpr ⟨tb_5 (List.mem_of_getElem? (i := 116) rfl), List.forall_mem_cons.mpr ⟨tb_2 (List.mem_of_getElem? (i := 146) rfl), List.forall_mem_cons.mpr ⟨tb_2 (List.mem_of_getElem? (i := 147) rfl), List.forall_mem_cons.mpr ⟨tb_2 (List.mem_of_getElem? (i := 148) rfl), List.forall_mem_cons.mpr ⟨tb_2 (List.mem_of_getElem? (i := 149) rfl), List.forall_mem_cons.mpr ⟨tb_5 (List.mem_of_getElem? (i := 117) rfl), List.forall_mem_cons.mpr ⟨tb_5 (List.mem_of_getElem? (i := 118) rfl), List.forall_mem_cons.mpr ⟨tb_5 (List.mem_of_getElem? (i := 119) rfl), List.forall_mem_cons.mpr ⟨tb_5 (List.mem_of_getElem? (i := 120) rfl), List.forall_mem_cons.mpr ⟨tb_2 (List.mem_of_getElem? (i := 150) rfl), List.forall_mem_cons.mpr ⟨tb_2 (List.mem_of_getElem? (i := 151) rfl), List.forall_mem_cons.mpr ⟨tb_2 (List.mem_of_getElem? (i := 152) rfl), List.forall_mem_cons.mpr ⟨tb_2 (List.mem_of_getElem? (i := 153) rfl), List.forall_mem_cons.mpr ⟨tb_2 (List.mem_of_getElem? (i := 154) rfl), List.forall_mem_cons.mpr ⟨tb_2 (List.mem_of_getElem? (i := 155) rfl), List.forall_mem_cons.mpr ⟨tb_2 (List.mem_of_getElem? (i := 156) rfl), List.forall_mem_cons.mpr ⟨tb_2 (List.mem_of_getElem? (i := 157) rfl), List.forall_mem_cons.mpr ⟨tb_2 (List.mem_of_getElem? (i := 158) rfl), List.forall_mem_cons.mpr ⟨tb_2 (List.mem_of_getElem? (i := 159) rfl), List.forall_mem_cons.mpr ⟨tb_2 (List.mem_of_getElem? (i := 160) rfl), List.forall_mem_cons.mpr ⟨tb_2 (List.mem_of_getElem? (i := 161) rfl), fun _ h => absurd h List.not_mem_nil⟩⟩⟩⟩⟩⟩⟩⟩⟩⟩⟩⟩⟩⟩⟩⟩⟩⟩⟩⟩⟩⟩⟩⟩
set_option maxRecDepth 20000 in
theorem rl_12 : ∀ w ∈ wsL_law_r12, w ∈ lw_tbl := List.forall_mem_cons.mpr ⟨tb_2 (List.mem_of_getElem? (i := 162) rfl), List.forall_mem_cons.mpr ⟨tb_2 (List.mem_of_getElem? (i := 163) rfl), List.forall_mem_cons.mpr ⟨tb_2 (List.mem_of_getElem? (i := 164) rfl), List.forall_mem_cons.mpr ⟨tb_5 (List.mem_of_getElem? (i := 121) rfl), List.forall_mem_cons.mpr ⟨tb_5 (List.mem_of_getElem? (i := 122) rfl), List.forall_mem_cons.mpr ⟨tb_5 (List.mem_of_getElem? (i := 123) rfl), List.forall_mem_cons.mpr ⟨tb_5 (List.mem_of_getElem? (i := 124) rfl), List.forall_mem_cons.mpr ⟨tb_5 (List.mem_of_getElem? (i := 125) rfl), List.forall_mem_cons.mpr ⟨tb_5 (List.mem_of_getElem? (i := 126) rfl), List.forall_mem_cons.mpr ⟨tb_5 (List.mem_of_getElem? (i := 127) rfl), List.forall_mem_cons.mpr ⟨tb_2 (List.mem_of_getElem? (i := 165) rfl), List.forall_mem_cons.mpr ⟨tb_2 (List.mem_of_getElem? (i := 166) rfl), List.forall_mem_cons.mpr ⟨tb_2 (List.mem_of_getElem? (i := 167) rfl), List.forall_mem_cons.mpr ⟨tb_2 (List.mem_of_getElem? (i := 168) rfl), List.forall_mem_cons.mpr ⟨tb_2 (List.mem_of_getElem? (i := 169) rfl), List.forall_mem_cons.mpr ⟨tb_2 (List.mem_of_getElem? (i := 170) rfl), List.forall_mem_cons.mpr ⟨tb_2 (List.mem_of_getElem? (i := 171) rfl), List.forall_mem_cons.mpr ⟨tb_2 (List.mem_of_getElem? (i := 172) rfl), List.forall_mem_cons.mpr ⟨tb_2 (List.mem_of_getElem? (i := 173) rfl), List.forall_mem_cons.mpr ⟨tb_2 (List.mem_of_getElem? (i := 174) rfl), List.forall_mem_cons.mpr ⟨tb_2 (List.mem_of_getElem? (i := 175) rfl), List.forall_mem_cons.mpr ⟨tb_2 (List.mem_of_getElem? (i := 176) rfl), List.forall_mem_cons.mpr ⟨tb_2 (List.mem_of_getElem? (i := 177) rfl), List.forall_mem_cons.mpr ⟨tb_2 (List.mem_of_getElem? (i := 178) rfl), fun _ h => absurd h List.not_mem_nil⟩⟩⟩⟩⟩⟩⟩⟩⟩⟩⟩⟩⟩⟩⟩⟩⟩⟩⟩⟩⟩⟩⟩⟩
set_option maxRecDepth 20000 in
theorem rl_13 : ∀ w ∈ wsL_law_r13, w ∈ lw_tbl := List.forall_mem_cons.mpr ⟨tb_2 (List.mem_of_getElem? (i := 179) rfl), List.forall_mem_cons.mpr ⟨tb_2 (List.mem_of_getElem? (i := 180) rfl), List.forall_mem_cons.mpr ⟨tb_5 (List.mem_of_getElem? (i := 128) rfl), List.forall_mem_cons.mpr ⟨tb_5 (List.mem_of_getElem? (i := 129) rfl), List.forall_mem_cons.mpr ⟨tb_5 (List.mem_of_getElem? (i := 130) rfl), List.forall_mem_cons.mpr ⟨tb_5 (List.mem_of_getElem? (i := 131) rfl), List.forall_mem_cons.mpr ⟨tb_2 (List.mem_of_getElem? (i := 181) rfl), List.forall_mem_cons.mpr ⟨tb_2 (List.mem_of_getElem? (i := 182) rfl), List.forall_mem_cons.mpr ⟨tb_2 (List.mem_of_getElem? (i := 183) rfl), List.forall_mem_cons.mpr ⟨tb_2 (List.mem_of_getElem? (i := 184) rfl), List.forall_mem_cons.mpr ⟨tb_2 (List.mem_of_getElem? (i := 185) rfl), List.forall_mem_cons.mpr ⟨tb_5 (List.mem_of_getElem? (i := 132) rfl), List.forall_mem_cons.mpr ⟨tb_5 (List.mem_of_getElem? (i := 133) rfl), List.forall_mem_cons.mpr ⟨tb_5 (List.mem_of_getElem? (i := 134) rfl), List.forall_mem_cons.mpr ⟨tb_5 (List.mem_of_getElem? (i := 135) rfl), List.forall_mem_cons.mpr ⟨tb_5 (List.mem_of_getElem? (i := 136) rfl), List.forall_mem_cons.mpr ⟨tb_2 (List.mem_of_getElem? (i := 186) rfl), List.forall_mem_cons.mpr ⟨tb_2 (List.mem_of_getElem? (i := 187) rfl), List.forall_mem_cons.mpr ⟨tb_2 (List.mem_of_getElem? (i := 188) rfl), List.forall_mem_cons.mpr ⟨tb_2 (List.mem_of_getElem? (i := 189) rfl), List.forall_mem_cons.mpr ⟨tb_2 (List.mem_of_getElem? (i := 190) rfl), List.forall_mem_cons.mpr ⟨tb_2 (List.mem_of_getElem? (i := 191) rfl), List.forall_mem_cons.mpr ⟨tb_2 (List.mem_of_getElem? (i := 192) rfl), List.forall_mem_cons.mpr ⟨tb_2 (List.mem_of_getElem? (i := 193) rfl), fun _ h => absurd h List.not_mem_nil⟩⟩⟩⟩⟩⟩⟩⟩⟩⟩⟩⟩⟩⟩⟩⟩⟩⟩⟩⟩⟩⟩⟩⟩
set_option maxRecDepth 20000 in
theorem rl_14 : ∀ w ∈ wsL_law_r14, w ∈ lw_tbl := List.forall_mem_cons.mpr ⟨tb_5 (List.mem_of_getElem? (i := 137) rfl), List.forall_mem_cons.mpr ⟨tb_5 (List.mem_of_getElem? (i := 138) rfl), List.forall_mem_cons.mpr ⟨tb_5 (List.mem_of_getElem? (i := 139) rfl), List.forall_mem_cons.mpr ⟨tb_5 (List.mem_of_getElem? (i := 140) rfl), List.forall_mem_cons.mpr ⟨tb_2 (List.mem_of_getElem? (i := 194) rfl), List.forall_mem_cons.mpr ⟨tb_2 (List.mem_of_getElem? (i := 195) rfl), List.forall_mem_cons.mpr ⟨tb_2 (List.mem_of_getElem? (i := 196) rfl), List.forall_mem_cons.mpr ⟨tb_2 (List.mem_of_getElem? (i := 197) rfl), List.forall_mem_cons.mpr ⟨tb_2 (List.mem_of_getElem? (i := 198) rfl), List.forall_mem_cons.mpr ⟨tb_2 (List.mem_of_getElem? (i := 199) rfl), List.forall_mem_cons.mpr ⟨tb_2 (List.mem_of_getElem? (i := 200) rfl), List.forall_mem_cons.mpr ⟨tb_2 (List.mem_of_getElem? (i := 201) rfl), List.forall_mem_cons.mpr ⟨tb_5 (List.mem_of_getElem? (i := 141) rfl), List.forall_mem_cons.mpr ⟨tb_5 (List.mem_of_getElem? (i := 142) rfl), List.forall_mem_cons.mpr ⟨tb_5 (List.mem_of_getElem? (i := 143) rfl), List.forall_mem_cons.mpr ⟨tb_5 (List.mem_of_getElem? (i := 144) rfl), List.forall_mem_cons.mpr ⟨tb_5 (List.mem_of_getElem? (i := 145) rfl), List.forall_mem_cons.mpr ⟨tb_2 (List.mem_of_getElem? (i := 203) rfl), List.forall_mem_cons.mpr ⟨tb_2 (List.mem_of_getElem? (i := 204) rfl), List.forall_mem_cons.mpr ⟨tb_2 (List.mem_of_getElem? (i := 205) rfl), List.forall_mem_cons.mpr ⟨tb_2 (List.mem_of_getElem? (i := 206) rfl), List.forall_mem_cons.mpr ⟨tb_2 (List.mem_of_getElem? (i := 221) rfl), List.forall_mem_cons.mpr ⟨tb_2 (List.mem_of_getElem? (i := 207) rfl), List.forall_mem_cons.mpr ⟨tb_2 (List.mem_of_getElem? (i := 208) rfl), fun _ h => absurd h List.not_mem_nil⟩⟩⟩⟩⟩⟩⟩⟩⟩⟩⟩⟩⟩⟩⟩⟩⟩⟩⟩⟩⟩⟩⟩⟩
set_option maxRecDepth 20000 in
theorem rl_15 : ∀ w ∈ wsL_law_r15, w ∈ lw_tbl := List.forall_mem_cons.mpr ⟨tb_2 (List.mem_of_getElem? (i := 209) rfl), List.forall_mem_cons.mpr ⟨tb_2 (List.mem_of_getElem? (i := 210) rfl), List.forall_mem_cons.mpr ⟨tb_2 (List.mem_of_getElem? (i := 211) rfl), List.forall_mem_cons.mpr ⟨tb_2 (List.mem_of_getElem? (i := 213) rfl), List.forall_mem_cons.mpr ⟨sp_1 (q := (yX7_reckon, 7)) (List.mem_of_getElem? (i := 2) rfl), List.forall_mem_cons.mpr ⟨tb_2 (List.mem_of_getElem? (i := 214) rfl), List.forall_mem_cons.mpr ⟨tb_2 (List.mem_of_getElem? (i := 215) rfl), List.forall_mem_cons.mpr ⟨tb_2 (List.mem_of_getElem? (i := 216) rfl), List.forall_mem_cons.mpr ⟨tb_2 (List.mem_of_getElem? (i := 217) rfl), List.forall_mem_cons.mpr ⟨tb_2 (List.mem_of_getElem? (i := 219) rfl), List.forall_mem_cons.mpr ⟨sp_1 (q := (yX7_shorten, 7)) (List.mem_of_getElem? (i := 3) rfl), List.forall_mem_cons.mpr ⟨tb_2 (List.mem_of_getElem? (i := 220) rfl), List.forall_mem_cons.mpr ⟨tb_5 (List.mem_of_getElem? (i := 146) rfl), List.forall_mem_cons.mpr ⟨tb_5 (List.mem_of_getElem? (i := 147) rfl), List.forall_mem_cons.mpr ⟨tb_5 (List.mem_of_getElem? (i := 148) rfl), List.forall_mem_cons.mpr ⟨tb_5 (List.mem_of_getElem? (i := 149) rfl), List.forall_mem_cons.mpr ⟨tb_2 (List.mem_of_getElem? (i := 222) rfl), List.forall_mem_cons.mpr ⟨tb_2 (List.mem_of_getElem? (i := 223) rfl), List.forall_mem_cons.mpr ⟨tb_2 (List.mem_of_getElem? (i := 224) rfl), List.forall_mem_cons.mpr ⟨tb_2 (List.mem_of_getElem? (i := 225) rfl), List.forall_mem_cons.mpr ⟨tb_2 (List.mem_of_getElem? (i := 226) rfl), List.forall_mem_cons.mpr ⟨tb_2 (List.mem_of_getElem? (i := 227) rfl), List.forall_mem_cons.mpr ⟨tb_2 (List.mem_of_getElem? (i := 228) rfl), List.forall_mem_cons.mpr ⟨tb_2 (List.mem_of_getElem? (i := 229) rfl), fun _ h => absurd h List.not_mem_nil⟩⟩⟩⟩⟩⟩⟩⟩⟩⟩⟩⟩⟩⟩⟩⟩⟩⟩⟩⟩⟩⟩⟩⟩
set_option maxRecDepth 20000 in
theorem rl_16 : ∀ w ∈ wsL_law_r16, w ∈ lw_tbl := List.forall_mem_cons.mpr ⟨tb_2 (List.mem_of_getElem? (i := 230) rfl), List.forall_mem_cons.mpr ⟨tb_2 (List.mem_of_getElem? (i := 231) rfl), List.forall_mem_cons.mpr ⟨tb_2 (List.mem_of_getElem? (i := 233) rfl), List.forall_mem_cons.mpr ⟨sp_1 (q := (yX7_nextOnWalk, 7)) (List.mem_of_getElem? (i := 4) rfl), List.forall_mem_cons.mpr ⟨tb_2 (List.mem_of_getElem? (i := 234) rfl), List.forall_mem_cons.mpr ⟨tb_2 (List.mem_of_getElem? (i := 235) rfl), List.forall_mem_cons.mpr ⟨tb_2 (List.mem_of_getElem? (i := 237) rfl), List.forall_mem_cons.mpr ⟨sp_1 (q := (yX7_farEnd, 7)) (List.mem_of_getElem? (i := 5) rfl), List.forall_mem_cons.mpr ⟨tb_2 (List.mem_of_getElem? (i := 238) rfl), List.forall_mem_cons.mpr ⟨tb_5 (List.mem_of_getElem? (i := 150) rfl), List.forall_mem_cons.mpr ⟨tb_5 (List.mem_of_getElem? (i := 151) rfl), List.forall_mem_cons.mpr ⟨tb_5 (List.mem_of_getElem? (i := 152) rfl), List.forall_mem_cons.mpr ⟨tb_5 (List.mem_of_getElem? (i := 153) rfl), List.forall_mem_cons.mpr ⟨tb_5 (List.mem_of_getElem? (i := 154) rfl), List.forall_mem_cons.mpr ⟨tb_5 (List.mem_of_getElem? (i := 156) rfl), List.forall_mem_cons.mpr ⟨sp_3 (q := (yX10_next, 36)) (List.mem_of_getElem? (i := 10) rfl), List.forall_mem_cons.mpr ⟨tb_5 (List.mem_of_getElem? (i := 157) rfl), List.forall_mem_cons.mpr ⟨tb_2 (List.mem_of_getElem? (i := 239) rfl), List.forall_mem_cons.mpr ⟨tb_3 (List.mem_of_getElem? (i := 0) rfl), List.forall_mem_cons.mpr ⟨tb_3 (List.mem_of_getElem? (i := 1) rfl), List.forall_mem_cons.mpr ⟨tb_3 (List.mem_of_getElem? (i := 2) rfl), List.forall_mem_cons.mpr ⟨tb_3 (List.mem_of_getElem? (i := 3) rfl), List.forall_mem_cons.mpr ⟨tb_3 (List.mem_of_getElem? (i := 4) rfl), List.forall_mem_cons.mpr ⟨tb_3 (List.mem_of_getElem? (i := 5) rfl), fun _ h => absurd h List.not_mem_nil⟩⟩⟩⟩⟩⟩⟩⟩⟩⟩⟩⟩⟩⟩⟩⟩⟩⟩⟩⟩⟩⟩⟩⟩
set_option maxRecDepth 20000 in
theorem rl_17 : ∀ w ∈ wsL_law_r17, w ∈ lw_tbl := List.forall_mem_cons.mpr ⟨tb_3 (List.mem_of_getElem? (i := 6) rfl), List.forall_mem_cons.mpr ⟨tb_3 (List.mem_of_getElem? (i := 7) rfl), List.forall_mem_cons.mpr ⟨tb_3 (List.mem_of_getElem? (i := 8) rfl), List.forall_mem_cons.mpr ⟨tb_3 (List.mem_of_getElem? (i := 9) rfl), List.forall_mem_cons.mpr ⟨tb_3 (List.mem_of_getElem? (i := 10) rfl), List.forall_mem_cons.mpr ⟨tb_3 (List.mem_of_getElem? (i := 11) rfl), List.forall_mem_cons.mpr ⟨tb_3 (List.mem_of_getElem? (i := 12) rfl), List.forall_mem_cons.mpr ⟨tb_3 (List.mem_of_getElem? (i := 13) rfl), List.forall_mem_cons.mpr ⟨tb_3 (List.mem_of_getElem? (i := 14) rfl), List.forall_mem_cons.mpr ⟨tb_5 (List.mem_of_getElem? (i := 158) rfl), List.forall_mem_cons.mpr ⟨tb_5 (List.mem_of_getElem? (i := 159) rfl), List.forall_mem_cons.mpr ⟨tb_5 (List.mem_of_getElem? (i := 160) rfl), List.forall_mem_cons.mpr ⟨tb_5 (List.mem_of_getElem? (i := 161) rfl), List.forall_mem_cons.mpr ⟨tb_5 (List.mem_of_getElem? (i := 2) rfl), List.forall_mem_cons.mpr ⟨tb_5 (List.mem_of_getElem? (i := 162) rfl), List.forall_mem_cons.mpr ⟨tb_5 (List.mem_of_getElem? (i := 164) rfl), List.forall_mem_cons.mpr ⟨sp_3 (q := (yX10_isLamp, 36)) (List.mem_of_getElem? (i := 11) rfl), List.forall_mem_cons.mpr ⟨tb_5 (List.mem_of_getElem? (i := 165) rfl), List.forall_mem_cons.mpr ⟨tb_3 (List.mem_of_getElem? (i := 15) rfl), List.forall_mem_cons.mpr ⟨tb_3 (List.mem_of_getElem? (i := 16) rfl), List.forall_mem_cons.mpr ⟨tb_3 (List.mem_of_getElem? (i := 17) rfl), List.forall_mem_cons.mpr ⟨tb_3 (List.mem_of_getElem? (i := 18) rfl), List.forall_mem_cons.mpr ⟨tb_3 (List.mem_of_getElem? (i := 19) rfl), List.forall_mem_cons.mpr ⟨tb_3 (List.mem_of_getElem? (i := 20) rfl), fun _ h => absurd h List.not_mem_nil⟩⟩⟩⟩⟩⟩⟩⟩⟩⟩⟩⟩⟩⟩⟩⟩⟩⟩⟩⟩⟩⟩⟩⟩
set_option maxRecDepth 20000 in
theorem rl_18 : ∀ w ∈ wsL_law_r18, w ∈ lw_tbl := List.forall_mem_cons.mpr ⟨tb_3 (List.mem_of_getElem? (i := 21) rfl), List.forall_mem_cons.mpr ⟨tb_3 (List.mem_of_getElem? (i := 22) rfl), List.forall_mem_cons.mpr ⟨tb_3 (List.mem_of_getElem? (i := 23) rfl), List.forall_mem_cons.mpr ⟨tb_3 (List.mem_of_getElem? (i := 25) rfl), List.forall_mem_cons.mpr ⟨tb_3 (List.mem_of_getElem? (i := 26) rfl), List.forall_mem_cons.mpr ⟨tb_3 (List.mem_of_getElem? (i := 27) rfl), List.forall_mem_cons.mpr ⟨tb_3 (List.mem_of_getElem? (i := 28) rfl), List.forall_mem_cons.mpr ⟨tb_3 (List.mem_of_getElem? (i := 29) rfl), List.forall_mem_cons.mpr ⟨tb_3 (List.mem_of_getElem? (i := 30) rfl), List.forall_mem_cons.mpr ⟨tb_5 (List.mem_of_getElem? (i := 166) rfl), List.forall_mem_cons.mpr ⟨tb_5 (List.mem_of_getElem? (i := 167) rfl), List.forall_mem_cons.mpr ⟨tb_5 (List.mem_of_getElem? (i := 168) rfl), List.forall_mem_cons.mpr ⟨tb_5 (List.mem_of_getElem? (i := 169) rfl), List.forall_mem_cons.mpr ⟨tb_3 (List.mem_of_getElem? (i := 31) rfl), List.forall_mem_cons.mpr ⟨tb_3 (List.mem_of_getElem? (i := 32) rfl), List.forall_mem_cons.mpr ⟨tb_3 (List.mem_of_getElem? (i := 33) rfl), List.forall_mem_cons.mpr ⟨tb_3 (List.mem_of_getElem? (i := 34) rfl), List.forall_mem_cons.mpr ⟨tb_3 (List.mem_of_getElem? (i := 35) rfl), List.forall_mem_cons.mpr ⟨tb_3 (List.mem_of_getElem? (i := 36) rfl), List.forall_mem_cons.mpr ⟨tb_3 (List.mem_of_getElem? (i := 37) rfl), List.forall_mem_cons.mpr ⟨tb_3 (List.mem_of_getElem? (i := 38) rfl), List.forall_mem_cons.mpr ⟨tb_3 (List.mem_of_getElem? (i := 39) rfl), List.forall_mem_cons.mpr ⟨tb_3 (List.mem_of_getElem? (i := 40) rfl), List.forall_mem_cons.mpr ⟨tb_3 (List.mem_of_getElem? (i := 41) rfl), fun _ h => absurd h List.not_mem_nil⟩⟩⟩⟩⟩⟩⟩⟩⟩⟩⟩⟩⟩⟩⟩⟩⟩⟩⟩⟩⟩⟩⟩⟩
set_option maxRecDepth 20000 in
theorem rl_19 : ∀ w ∈ wsL_law_r19, w ∈ lw_tbl := List.forall_mem_cons.mpr ⟨tb_3 (List.mem_of_getElem? (i := 43) rfl), List.forall_mem_cons.mpr ⟨sp_1 (q := (yX2_twinOf, 11)) (List.mem_of_getElem? (i := 6) rfl), List.forall_mem_cons.mpr ⟨tb_3 (List.mem_of_getElem? (i := 44) rfl), List.forall_mem_cons.mpr ⟨tb_3 (List.mem_of_getElem? (i := 45) rfl), List.forall_mem_cons.mpr ⟨tb_3 (List.mem_of_getElem? (i := 47) rfl), List.forall_mem_cons.mpr ⟨sp_1 (q := (yX2_nearest, 11)) (List.mem_of_getElem? (i := 7) rfl), List.forall_mem_cons.mpr ⟨tb_3 (List.mem_of_getElem? (i := 48) rfl), List.forall_mem_cons.mpr ⟨tb_3 (List.mem_of_getElem? (i := 49) rfl), List.forall_mem_cons.mpr ⟨tb_3 (List.mem_of_getElem? (i := 50) rfl), List.forall_mem_cons.mpr ⟨tb_3 (List.mem_of_getElem? (i := 52) rfl), List.forall_mem_cons.mpr ⟨sp_1 (q := (yX2_tieTwins, 11)) (List.mem_of_getElem? (i := 8) rfl), List.forall_mem_cons.mpr ⟨tb_3 (List.mem_of_getElem? (i := 53) rfl), List.forall_mem_cons.mpr ⟨tb_3 (List.mem_of_getElem? (i := 54) rfl), List.forall_mem_cons.mpr ⟨tb_5 (List.mem_of_getElem? (i := 170) rfl), List.forall_mem_cons.mpr ⟨tb_5 (List.mem_of_getElem? (i := 171) rfl), List.forall_mem_cons.mpr ⟨tb_5 (List.mem_of_getElem? (i := 172) rfl), List.forall_mem_cons.mpr ⟨tb_5 (List.mem_of_getElem? (i := 173) rfl), List.forall_mem_cons.mpr ⟨tb_5 (List.mem_of_getElem? (i := 174) rfl), List.forall_mem_cons.mpr ⟨tb_5 (List.mem_of_getElem? (i := 176) rfl), List.forall_mem_cons.mpr ⟨sp_3 (q := (yX10_twinOf, 36)) (List.mem_of_getElem? (i := 12) rfl), List.forall_mem_cons.mpr ⟨tb_5 (List.mem_of_getElem? (i := 177) rfl), List.forall_mem_cons.mpr ⟨tb_5 (List.mem_of_getElem? (i := 178) rfl), List.forall_mem_cons.mpr ⟨tb_5 (List.mem_of_getElem? (i := 180) rfl), List.forall_mem_cons.mpr ⟨sp_3 (q := (yX10_between, 36)) (List.mem_of_getElem? (i := 13) rfl), fun _ h => absurd h List.not_mem_nil⟩⟩⟩⟩⟩⟩⟩⟩⟩⟩⟩⟩⟩⟩⟩⟩⟩⟩⟩⟩⟩⟩⟩⟩
set_option maxRecDepth 20000 in
theorem rl_20 : ∀ w ∈ wsL_law_r20, w ∈ lw_tbl := List.forall_mem_cons.mpr ⟨tb_5 (List.mem_of_getElem? (i := 181) rfl), List.forall_mem_cons.mpr ⟨tb_3 (List.mem_of_getElem? (i := 55) rfl), List.forall_mem_cons.mpr ⟨tb_3 (List.mem_of_getElem? (i := 56) rfl), List.forall_mem_cons.mpr ⟨tb_3 (List.mem_of_getElem? (i := 57) rfl), List.forall_mem_cons.mpr ⟨tb_3 (List.mem_of_getElem? (i := 58) rfl), List.forall_mem_cons.mpr ⟨tb_3 (List.mem_of_getElem? (i := 59) rfl), List.forall_mem_cons.mpr ⟨tb_3 (List.mem_of_getElem? (i := 60) rfl), List.forall_mem_cons.mpr ⟨tb_3 (List.mem_of_getElem? (i := 61) rfl), List.forall_mem_cons.mpr ⟨tb_3 (List.mem_of_getElem? (i := 62) rfl), List.forall_mem_cons.mpr ⟨tb_3 (List.mem_of_getElem? (i := 63) rfl), List.forall_mem_cons.mpr ⟨tb_5 (List.mem_of_getElem? (i := 182) rfl), List.forall_mem_cons.mpr ⟨tb_5 (List.mem_of_getElem? (i := 183) rfl), List.forall_mem_cons.mpr ⟨tb_5 (List.mem_of_getElem? (i := 184) rfl), List.forall_mem_cons.mpr ⟨tb_5 (List.mem_of_getElem? (i := 185) rfl), List.forall_mem_cons.mpr ⟨tb_5 (List.mem_of_getElem? (i := 186) rfl), List.forall_mem_cons.mpr ⟨tb_3 (List.mem_of_getElem? (i := 64) rfl), List.forall_mem_cons.mpr ⟨tb_3 (List.mem_of_getElem? (i := 65) rfl), List.forall_mem_cons.mpr ⟨tb_3 (List.mem_of_getElem? (i := 66) rfl), List.forall_mem_cons.mpr ⟨tb_3 (List.mem_of_getElem? (i := 67) rfl), List.forall_mem_cons.mpr ⟨tb_3 (List.mem_of_getElem? (i := 68) rfl), List.forall_mem_cons.mpr ⟨tb_3 (List.mem_of_getElem? (i := 69) rfl), List.forall_mem_cons.mpr ⟨tb_3 (List.mem_of_getElem? (i := 70) rfl), List.forall_mem_cons.mpr ⟨tb_3 (List.mem_of_getElem? (i := 71) rfl), List.forall_mem_cons.mpr ⟨tb_3 (List.mem_of_getElem? (i := 72) rfl), fun _ h => absurd h List.not_mem_nil⟩⟩⟩⟩⟩⟩⟩⟩⟩⟩⟩⟩⟩⟩⟩⟩⟩⟩⟩⟩⟩⟩⟩⟩
set_option maxRecDepth 20000 in
theorem rl_21 : ∀ w ∈ wsL_law_r21, w ∈ lw_tbl := List.forall_mem_cons.mpr ⟨tb_3 (List.mem_of_getElem? (i := 73) rfl), List.forall_mem_cons.mpr ⟨tb_1 (List.mem_of_getElem? (i := 13) rfl), List.forall_mem_cons.mpr ⟨tb_3 (List.mem_of_getElem? (i := 74) rfl), List.forall_mem_cons.mpr ⟨tb_3 (List.mem_of_getElem? (i := 75) rfl), List.forall_mem_cons.mpr ⟨tb_3 (List.mem_of_getElem? (i := 76) rfl), List.forall_mem_cons.mpr ⟨tb_3 (List.mem_of_getElem? (i := 77) rfl), List.forall_mem_cons.mpr ⟨tb_3 (List.mem_of_getElem? (i := 78) rfl), List.forall_mem_cons.mpr ⟨tb_3 (List.mem_of_getElem? (i := 79) rfl), List.forall_mem_cons.mpr ⟨tb_3 (List.mem_of_getElem? (i := 80) rfl), List.forall_mem_cons.mpr ⟨tb_3 (List.mem_of_getElem? (i := 81) rfl), List.forall_mem_cons.mpr ⟨tb_3 (List.mem_of_getElem? (i := 82) rfl), List.forall_mem_cons.mpr ⟨tb_5 (List.mem_of_getElem? (i := 187) rfl), List.forall_mem_cons.mpr ⟨tb_5 (List.mem_of_getElem? (i := 188) rfl), List.forall_mem_cons.mpr ⟨tb_5 (List.mem_of_getElem? (i := 189) rfl), List.forall_mem_cons.mpr ⟨tb_5 (List.mem_of_getElem? (i := 190) rfl), List.forall_mem_cons.mpr ⟨tb_5 (List.mem_of_getElem? (i := 10) rfl), List.forall_mem_cons.mpr ⟨tb_5 (List.mem_of_getElem? (i := 191) rfl), List.forall_mem_cons.mpr ⟨tb_5 (List.mem_of_getElem? (i := 193) rfl), List.forall_mem_cons.mpr ⟨sp_3 (q := (yX10_lit, 36)) (List.mem_of_getElem? (i := 14) rfl), List.forall_mem_cons.mpr ⟨tb_5 (List.mem_of_getElem? (i := 194) rfl), List.forall_mem_cons.mpr ⟨tb_3 (List.mem_of_getElem? (i := 83) rfl), List.forall_mem_cons.mpr ⟨tb_3 (List.mem_of_getElem? (i := 84) rfl), List.forall_mem_cons.mpr ⟨tb_3 (List.mem_of_getElem? (i := 85) rfl), List.forall_mem_cons.mpr ⟨tb_3 (List.mem_of_getElem? (i := 86) rfl), fun _ h => absurd h List.not_mem_nil⟩⟩⟩⟩⟩⟩⟩⟩⟩⟩⟩⟩⟩⟩⟩⟩⟩⟩⟩⟩⟩⟩⟩⟩
set_option maxRecDepth 20000 in
theorem rl_22 : ∀ w ∈ wsL_law_r22, w ∈ lw_tbl := List.forall_mem_cons.mpr ⟨tb_3 (List.mem_of_getElem? (i := 87) rfl), List.forall_mem_cons.mpr ⟨tb_3 (List.mem_of_getElem? (i := 89) rfl), List.forall_mem_cons.mpr ⟨sp_1 (q := (yX9_isLarge, 10)) (List.mem_of_getElem? (i := 9) rfl), List.forall_mem_cons.mpr ⟨tb_3 (List.mem_of_getElem? (i := 90) rfl), List.forall_mem_cons.mpr ⟨tb_3 (List.mem_of_getElem? (i := 91) rfl), List.forall_mem_cons.mpr ⟨tb_3 (List.mem_of_getElem? (i := 92) rfl), List.forall_mem_cons.mpr ⟨tb_3 (List.mem_of_getElem? (i := 93) rfl), List.forall_mem_cons.mpr ⟨tb_3 (List.mem_of_getElem? (i := 94) rfl), List.forall_mem_cons.mpr ⟨tb_3 (List.mem_of_getElem? (i := 96) rfl), List.forall_mem_cons.mpr ⟨tb_3 (List.mem_of_getElem? (i := 98) rfl), List.forall_mem_cons.mpr ⟨tb_3 (List.mem_of_getElem? (i := 97) rfl), List.forall_mem_cons.mpr ⟨tb_1 (List.mem_of_getElem? (i := 14) rfl), List.forall_mem_cons.mpr ⟨tb_3 (List.mem_of_getElem? (i := 95) rfl), List.forall_mem_cons.mpr ⟨tb_3 (List.mem_of_getElem? (i := 99) rfl), List.forall_mem_cons.mpr ⟨tb_3 (List.mem_of_getElem? (i := 100) rfl), List.forall_mem_cons.mpr ⟨tb_3 (List.mem_of_getElem? (i := 101) rfl), List.forall_mem_cons.mpr ⟨tb_3 (List.mem_of_getElem? (i := 102) rfl), List.forall_mem_cons.mpr ⟨tb_3 (List.mem_of_getElem? (i := 103) rfl), List.forall_mem_cons.mpr ⟨tb_3 (List.mem_of_getElem? (i := 104) rfl), List.forall_mem_cons.mpr ⟨tb_3 (List.mem_of_getElem? (i := 105) rfl), List.forall_mem_cons.mpr ⟨tb_3 (List.mem_of_getElem? (i := 107) rfl), List.forall_mem_cons.mpr ⟨sp_1 (q := (yX5_isHungTogether, 10)) (List.mem_of_getElem? (i := 10) rfl), List.forall_mem_cons.mpr ⟨tb_3 (List.mem_of_getElem? (i := 108) rfl), List.forall_mem_cons.mpr ⟨tb_3 (List.mem_of_getElem? (i := 109) rfl), fun _ h => absurd h List.not_mem_nil⟩⟩⟩⟩⟩⟩⟩⟩⟩⟩⟩⟩⟩⟩⟩⟩⟩⟩⟩⟩⟩⟩⟩⟩
set_option maxRecDepth 20000 in
theorem rl_23 : ∀ w ∈ wsL_law_r23, w ∈ lw_tbl := List.forall_mem_cons.mpr ⟨tb_3 (List.mem_of_getElem? (i := 110) rfl), List.forall_mem_cons.mpr ⟨tb_3 (List.mem_of_getElem? (i := 112) rfl), List.forall_mem_cons.mpr ⟨sp_1 (q := (yX5_extend, 10)) (List.mem_of_getElem? (i := 11) rfl), List.forall_mem_cons.mpr ⟨tb_3 (List.mem_of_getElem? (i := 113) rfl), List.forall_mem_cons.mpr ⟨tb_3 (List.mem_of_getElem? (i := 114) rfl), List.forall_mem_cons.mpr ⟨tb_3 (List.mem_of_getElem? (i := 116) rfl), List.forall_mem_cons.mpr ⟨sp_1 (q := (yX5_finish, 10)) (List.mem_of_getElem? (i := 12) rfl), List.forall_mem_cons.mpr ⟨tb_3 (List.mem_of_getElem? (i := 117) rfl), List.forall_mem_cons.mpr ⟨tb_3 (List.mem_of_getElem? (i := 119) rfl), List.forall_mem_cons.mpr ⟨tb_3 (List.mem_of_getElem? (i := 121) rfl), List.forall_mem_cons.mpr ⟨sp_1 (q := (yX5_isContent, 10)) (List.mem_of_getElem? (i := 13) rfl), List.forall_mem_cons.mpr ⟨tb_3 (List.mem_of_getElem? (i := 122) rfl), List.forall_mem_cons.mpr ⟨tb_3 (List.mem_of_getElem? (i := 123) rfl), List.forall_mem_cons.mpr ⟨tb_3 (List.mem_of_getElem? (i := 125) rfl), List.forall_mem_cons.mpr ⟨sp_1 (q := (yX5_isShunned, 10)) (List.mem_of_getElem? (i := 14) rfl), List.forall_mem_cons.mpr ⟨tb_3 (List.mem_of_getElem? (i := 126) rfl), List.forall_mem_cons.mpr ⟨tb_3 (List.mem_of_getElem? (i := 127) rfl), List.forall_mem_cons.mpr ⟨tb_3 (List.mem_of_getElem? (i := 129) rfl), List.forall_mem_cons.mpr ⟨sp_1 (q := (yX5_mayFollow, 10)) (List.mem_of_getElem? (i := 15) rfl), List.forall_mem_cons.mpr ⟨tb_3 (List.mem_of_getElem? (i := 130) rfl), List.forall_mem_cons.mpr ⟨tb_3 (List.mem_of_getElem? (i := 131) rfl), List.forall_mem_cons.mpr ⟨tb_3 (List.mem_of_getElem? (i := 132) rfl), List.forall_mem_cons.mpr ⟨tb_3 (List.mem_of_getElem? (i := 133) rfl), List.forall_mem_cons.mpr ⟨tb_3 (List.mem_of_getElem? (i := 134) rfl), fun _ h => absurd h List.not_mem_nil⟩⟩⟩⟩⟩⟩⟩⟩⟩⟩⟩⟩⟩⟩⟩⟩⟩⟩⟩⟩⟩⟩⟩⟩
set_option maxRecDepth 20000 in
theorem rl_24 : ∀ w ∈ wsL_law_r24, w ∈ lw_tbl := List.forall_mem_cons.mpr ⟨tb_3 (List.mem_of_getElem? (i := 135) rfl), List.forall_mem_cons.mpr ⟨tb_5 (List.mem_of_getElem? (i := 195) rfl), List.forall_mem_cons.mpr ⟨tb_5 (List.mem_of_getElem? (i := 196) rfl), List.forall_mem_cons.mpr ⟨tb_5 (List.mem_of_getElem? (i := 197) rfl), List.forall_mem_cons.mpr ⟨tb_5 (List.mem_of_getElem? (i := 198) rfl), List.forall_mem_cons.mpr ⟨tb_5 (List.mem_of_getElem? (i := 199) rfl), List.forall_mem_cons.mpr ⟨tb_5 (List.mem_of_getElem? (i := 201) rfl), List.forall_mem_cons.mpr ⟨sp_3 (q := (yX10_search, 36)) (List.mem_of_getElem? (i := 15) rfl), List.forall_mem_cons.mpr ⟨tb_5 (List.mem_of_getElem? (i := 202) rfl), List.forall_mem_cons.mpr ⟨tb_5 (List.mem_of_getElem? (i := 203) rfl), List.forall_mem_cons.mpr ⟨tb_5 (List.mem_of_getElem? (i := 205) rfl), List.forall_mem_cons.mpr ⟨sp_4 (q := (yX10_lengthOf, 36)) (List.mem_of_getElem? (i := 0) rfl), List.forall_mem_cons.mpr ⟨tb_5 (List.mem_of_getElem? (i := 206) rfl), List.forall_mem_cons.mpr ⟨tb_5 (List.mem_of_getElem? (i := 207) rfl), List.forall_mem_cons.mpr ⟨tb_5 (List.mem_of_getElem? (i := 209) rfl), List.forall_mem_cons.mpr ⟨sp_4 (q := (yX10_keepsTwins, 36)) (List.mem_of_getElem? (i := 1) rfl), List.forall_mem_cons.mpr ⟨tb_5 (List.mem_of_getElem? (i := 210) rfl), List.forall_mem_cons.mpr ⟨tb_5 (List.mem_of_getElem? (i := 211) rfl), List.forall_mem_cons.mpr ⟨tb_5 (List.mem_of_getElem? (i := 212) rfl), List.forall_mem_cons.mpr ⟨tb_5 (List.mem_of_getElem? (i := 213) rfl), List.forall_mem_cons.mpr ⟨tb_5 (List.mem_of_getElem? (i := 214) rfl), List.forall_mem_cons.mpr ⟨tb_5 (List.mem_of_getElem? (i := 215) rfl), List.forall_mem_cons.mpr ⟨tb_5 (List.mem_of_getElem? (i := 216) rfl), List.forall_mem_cons.mpr ⟨tb_5 (List.mem_of_getElem? (i := 217) rfl), fun _ h => absurd h List.not_mem_nil⟩⟩⟩⟩⟩⟩⟩⟩⟩⟩⟩⟩⟩⟩⟩⟩⟩⟩⟩⟩⟩⟩⟩⟩
set_option maxRecDepth 20000 in
theorem rl_25 : ∀ w ∈ wsL_law_r25, w ∈ lw_tbl := List.forall_mem_cons.mpr ⟨tb_5 (List.mem_of_getElem? (i := 219) rfl), List.forall_mem_cons.mpr ⟨sp_4 (q := (yX10_isWritten, 36)) (List.mem_of_getElem? (i := 2) rfl), List.forall_mem_cons.mpr ⟨tb_5 (List.mem_of_getElem? (i := 220) rfl), List.forall_mem_cons.mpr ⟨tb_5 (List.mem_of_getElem? (i := 221) rfl), List.forall_mem_cons.mpr ⟨tb_5 (List.mem_of_getElem? (i := 223) rfl), List.forall_mem_cons.mpr ⟨sp_4 (q := (yX10_nextOrder, 36)) (List.mem_of_getElem? (i := 3) rfl), List.forall_mem_cons.mpr ⟨tb_5 (List.mem_of_getElem? (i := 224) rfl), List.forall_mem_cons.mpr ⟨tb_5 (List.mem_of_getElem? (i := 225) rfl), List.forall_mem_cons.mpr ⟨tb_5 (List.mem_of_getElem? (i := 227) rfl), List.forall_mem_cons.mpr ⟨sp_4 (q := (yX10_swap, 36)) (List.mem_of_getElem? (i := 4) rfl), List.forall_mem_cons.mpr ⟨tb_5 (List.mem_of_getElem? (i := 228) rfl), List.forall_mem_cons.mpr ⟨tb_3 (List.mem_of_getElem? (i := 136) rfl), List.forall_mem_cons.mpr ⟨tb_3 (List.mem_of_getElem? (i := 137) rfl), List.forall_mem_cons.mpr ⟨tb_3 (List.mem_of_getElem? (i := 138) rfl), List.forall_mem_cons.mpr ⟨tb_3 (List.mem_of_getElem? (i := 139) rfl), List.forall_mem_cons.mpr ⟨tb_3 (List.mem_of_getElem? (i := 140) rfl), List.forall_mem_cons.mpr ⟨tb_3 (List.mem_of_getElem? (i := 141) rfl), List.forall_mem_cons.mpr ⟨tb_3 (List.mem_of_getElem? (i := 142) rfl), List.forall_mem_cons.mpr ⟨tb_3 (List.mem_of_getElem? (i := 143) rfl), List.forall_mem_cons.mpr ⟨tb_3 (List.mem_of_getElem? (i := 144) rfl), List.forall_mem_cons.mpr ⟨tb_3 (List.mem_of_getElem? (i := 145) rfl), List.forall_mem_cons.mpr ⟨tb_3 (List.mem_of_getElem? (i := 146) rfl), List.forall_mem_cons.mpr ⟨tb_3 (List.mem_of_getElem? (i := 147) rfl), List.forall_mem_cons.mpr ⟨tb_3 (List.mem_of_getElem? (i := 148) rfl), fun _ h => absurd h List.not_mem_nil⟩⟩⟩⟩⟩⟩⟩⟩⟩⟩⟩⟩⟩⟩⟩⟩⟩⟩⟩⟩⟩⟩⟩⟩
set_option maxRecDepth 20000 in
theorem rl_26 : ∀ w ∈ wsL_law_r26, w ∈ lw_tbl := List.forall_mem_cons.mpr ⟨tb_3 (List.mem_of_getElem? (i := 149) rfl), List.forall_mem_cons.mpr ⟨tb_3 (List.mem_of_getElem? (i := 151) rfl), List.forall_mem_cons.mpr ⟨sp_2 (q := (yX6_after, 3)) (List.mem_of_getElem? (i := 0) rfl), List.forall_mem_cons.mpr ⟨tb_3 (List.mem_of_getElem? (i := 152) rfl), List.forall_mem_cons.mpr ⟨tb_3 (List.mem_of_getElem? (i := 153) rfl), List.forall_mem_cons.mpr ⟨tb_3 (List.mem_of_getElem? (i := 155) rfl), List.forall_mem_cons.mpr ⟨sp_2 (q := (yX6_before, 3)) (List.mem_of_getElem? (i := 1) rfl), List.forall_mem_cons.mpr ⟨tb_3 (List.mem_of_getElem? (i := 156) rfl), List.forall_mem_cons.mpr ⟨tb_5 (List.mem_of_getElem? (i := 229) rfl), List.forall_mem_cons.mpr ⟨tb_5 (List.mem_of_getElem? (i := 230) rfl), List.forall_mem_cons.mpr ⟨tb_5 (List.mem_of_getElem? (i := 231) rfl), List.forall_mem_cons.mpr ⟨tb_5 (List.mem_of_getElem? (i := 232) rfl), List.forall_mem_cons.mpr ⟨tb_5 (List.mem_of_getElem? (i := 233) rfl), List.forall_mem_cons.mpr ⟨tb_5 (List.mem_of_getElem? (i := 235) rfl), List.forall_mem_cons.mpr ⟨sp_4 (q := (yX10_isWhole, 36)) (List.mem_of_getElem? (i := 5) rfl), List.forall_mem_cons.mpr ⟨tb_5 (List.mem_of_getElem? (i := 236) rfl), List.forall_mem_cons.mpr ⟨tb_5 (List.mem_of_getElem? (i := 237) rfl), List.forall_mem_cons.mpr ⟨tb_5 (List.mem_of_getElem? (i := 239) rfl), List.forall_mem_cons.mpr ⟨sp_4 (q := (yX10_write, 36)) (List.mem_of_getElem? (i := 6) rfl), List.forall_mem_cons.mpr ⟨tb_6 (List.mem_of_getElem? (i := 0) rfl), List.forall_mem_cons.mpr ⟨tb_3 (List.mem_of_getElem? (i := 157) rfl), List.forall_mem_cons.mpr ⟨tb_3 (List.mem_of_getElem? (i := 158) rfl), List.forall_mem_cons.mpr ⟨tb_3 (List.mem_of_getElem? (i := 159) rfl), List.forall_mem_cons.mpr ⟨tb_3 (List.mem_of_getElem? (i := 160) rfl), fun _ h => absurd h List.not_mem_nil⟩⟩⟩⟩⟩⟩⟩⟩⟩⟩⟩⟩⟩⟩⟩⟩⟩⟩⟩⟩⟩⟩⟩⟩
set_option maxRecDepth 20000 in
theorem rl_27 : ∀ w ∈ wsL_law_r27, w ∈ lw_tbl := List.forall_mem_cons.mpr ⟨tb_3 (List.mem_of_getElem? (i := 161) rfl), List.forall_mem_cons.mpr ⟨tb_3 (List.mem_of_getElem? (i := 162) rfl), List.forall_mem_cons.mpr ⟨tb_3 (List.mem_of_getElem? (i := 163) rfl), List.forall_mem_cons.mpr ⟨tb_3 (List.mem_of_getElem? (i := 164) rfl), List.forall_mem_cons.mpr ⟨tb_6 (List.mem_of_getElem? (i := 1) rfl), List.forall_mem_cons.mpr ⟨tb_6 (List.mem_of_getElem? (i := 2) rfl), List.forall_mem_cons.mpr ⟨tb_6 (List.mem_of_getElem? (i := 3) rfl), List.forall_mem_cons.mpr ⟨tb_6 (List.mem_of_getElem? (i := 4) rfl), List.forall_mem_cons.mpr ⟨tb_6 (List.mem_of_getElem? (i := 5) rfl), List.forall_mem_cons.mpr ⟨tb_6 (List.mem_of_getElem? (i := 7) rfl), List.forall_mem_cons.mpr ⟨sp_4 (q := (yX10_isLit, 36)) (List.mem_of_getElem? (i := 7) rfl), List.forall_mem_cons.mpr ⟨tb_6 (List.mem_of_getElem? (i := 8) rfl), List.forall_mem_cons.mpr ⟨tb_3 (List.mem_of_getElem? (i := 165) rfl), List.forall_mem_cons.mpr ⟨tb_3 (List.mem_of_getElem? (i := 166) rfl), List.forall_mem_cons.mpr ⟨tb_3 (List.mem_of_getElem? (i := 167) rfl), List.forall_mem_cons.mpr ⟨tb_3 (List.mem_of_getElem? (i := 168) rfl), List.forall_mem_cons.mpr ⟨tb_3 (List.mem_of_getElem? (i := 169) rfl), List.forall_mem_cons.mpr ⟨tb_3 (List.mem_of_getElem? (i := 170) rfl), List.forall_mem_cons.mpr ⟨tb_3 (List.mem_of_getElem? (i := 171) rfl), List.forall_mem_cons.mpr ⟨tb_3 (List.mem_of_getElem? (i := 172) rfl), List.forall_mem_cons.mpr ⟨tb_3 (List.mem_of_getElem? (i := 173) rfl), List.forall_mem_cons.mpr ⟨tb_3 (List.mem_of_getElem? (i := 174) rfl), List.forall_mem_cons.mpr ⟨tb_3 (List.mem_of_getElem? (i := 175) rfl), List.forall_mem_cons.mpr ⟨tb_3 (List.mem_of_getElem? (i := 176) rfl), fun _ h => absurd h List.not_mem_nil⟩⟩⟩⟩⟩⟩⟩⟩⟩⟩⟩⟩⟩⟩⟩⟩⟩⟩⟩⟩⟩⟩⟩⟩
set_option maxRecDepth 20000 in
theorem rl_28 : ∀ w ∈ wsL_law_r28, w ∈ lw_tbl := List.forall_mem_cons.mpr ⟨tb_6 (List.mem_of_getElem? (i := 9) rfl), List.forall_mem_cons.mpr ⟨tb_6 (List.mem_of_getElem? (i := 10) rfl), List.forall_mem_cons.mpr ⟨tb_6 (List.mem_of_getElem? (i := 11) rfl), List.forall_mem_cons.mpr ⟨tb_6 (List.mem_of_getElem? (i := 12) rfl), List.forall_mem_cons.mpr ⟨tb_3 (List.mem_of_getElem? (i := 177) rfl), List.forall_mem_cons.mpr ⟨tb_3 (List.mem_of_getElem? (i := 178) rfl), List.forall_mem_cons.mpr ⟨tb_3 (List.mem_of_getElem? (i := 179) rfl), List.forall_mem_cons.mpr ⟨tb_3 (List.mem_of_getElem? (i := 180) rfl), List.forall_mem_cons.mpr ⟨tb_6 (List.mem_of_getElem? (i := 13) rfl), List.forall_mem_cons.mpr ⟨tb_6 (List.mem_of_getElem? (i := 14) rfl), List.forall_mem_cons.mpr ⟨tb_6 (List.mem_of_getElem? (i := 15) rfl), List.forall_mem_cons.mpr ⟨tb_6 (List.mem_of_getElem? (i := 16) rfl), List.forall_mem_cons.mpr ⟨tb_3 (List.mem_of_getElem? (i := 181) rfl), List.forall_mem_cons.mpr ⟨tb_3 (List.mem_of_getElem? (i := 182) rfl), List.forall_mem_cons.mpr ⟨tb_3 (List.mem_of_getElem? (i := 183) rfl), List.forall_mem_cons.mpr ⟨tb_3 (List.mem_of_getElem? (i := 184) rfl), List.forall_mem_cons.mpr ⟨tb_6 (List.mem_of_getElem? (i := 17) rfl), List.forall_mem_cons.mpr ⟨tb_6 (List.mem_of_getElem? (i := 18) rfl), List.forall_mem_cons.mpr ⟨tb_6 (List.mem_of_getElem? (i := 19) rfl), List.forall_mem_cons.mpr ⟨tb_6 (List.mem_of_getElem? (i := 20) rfl), List.forall_mem_cons.mpr ⟨tb_3 (List.mem_of_getElem? (i := 185) rfl), List.forall_mem_cons.mpr ⟨tb_3 (List.mem_of_getElem? (i := 186) rfl), List.forall_mem_cons.mpr ⟨tb_3 (List.mem_of_getElem? (i := 187) rfl), List.forall_mem_cons.mpr ⟨tb_3 (List.mem_of_getElem? (i := 188) rfl), fun _ h => absurd h List.not_mem_nil⟩⟩⟩⟩⟩⟩⟩⟩⟩⟩⟩⟩⟩⟩⟩⟩⟩⟩⟩⟩⟩⟩⟩⟩
set_option maxRecDepth 20000 in
theorem rl_29 : ∀ w ∈ wsL_law_r29, w ∈ lw_tbl := List.forall_mem_cons.mpr ⟨tb_3 (List.mem_of_getElem? (i := 189) rfl), List.forall_mem_cons.mpr ⟨tb_3 (List.mem_of_getElem? (i := 190) rfl), List.forall_mem_cons.mpr ⟨tb_3 (List.mem_of_getElem? (i := 191) rfl), List.forall_mem_cons.mpr ⟨tb_3 (List.mem_of_getElem? (i := 192) rfl), List.forall_mem_cons.mpr ⟨tb_3 (List.mem_of_getElem? (i := 193) rfl), List.forall_mem_cons.mpr ⟨tb_6 (List.mem_of_getElem? (i := 21) rfl), List.forall_mem_cons.mpr ⟨tb_6 (List.mem_of_getElem? (i := 22) rfl), List.forall_mem_cons.mpr ⟨tb_6 (List.mem_of_getElem? (i := 23) rfl), List.forall_mem_cons.mpr ⟨tb_6 (List.mem_of_getElem? (i := 24) rfl), List.forall_mem_cons.mpr ⟨tb_3 (List.mem_of_getElem? (i := 194) rfl), List.forall_mem_cons.mpr ⟨tb_3 (List.mem_of_getElem? (i := 195) rfl), List.forall_mem_cons.mpr ⟨tb_3 (List.mem_of_getElem? (i := 196) rfl), List.forall_mem_cons.mpr ⟨tb_3 (List.mem_of_getElem? (i := 197) rfl), List.forall_mem_cons.mpr ⟨tb_3 (List.mem_of_getElem? (i := 198) rfl), List.forall_mem_cons.mpr ⟨tb_3 (List.mem_of_getElem? (i := 199) rfl), List.forall_mem_cons.mpr ⟨tb_3 (List.mem_of_getElem? (i := 200) rfl), List.forall_mem_cons.mpr ⟨tb_3 (List.mem_of_getElem? (i := 201) rfl), List.forall_mem_cons.mpr ⟨tb_6 (List.mem_of_getElem? (i := 25) rfl), List.forall_mem_cons.mpr ⟨tb_6 (List.mem_of_getElem? (i := 26) rfl), List.forall_mem_cons.mpr ⟨tb_6 (List.mem_of_getElem? (i := 27) rfl), List.forall_mem_cons.mpr ⟨tb_6 (List.mem_of_getElem? (i := 28) rfl), List.forall_mem_cons.mpr ⟨tb_3 (List.mem_of_getElem? (i := 202) rfl), List.forall_mem_cons.mpr ⟨tb_3 (List.mem_of_getElem? (i := 203) rfl), List.forall_mem_cons.mpr ⟨tb_3 (List.mem_of_getElem? (i := 204) rfl), fun _ h => absurd h List.not_mem_nil⟩⟩⟩⟩⟩⟩⟩⟩⟩⟩⟩⟩⟩⟩⟩⟩⟩⟩⟩⟩⟩⟩⟩⟩
set_option maxRecDepth 20000 in
theorem rl_30 : ∀ w ∈ wsL_law_r30, w ∈ lw_tbl := List.forall_mem_cons.mpr ⟨tb_3 (List.mem_of_getElem? (i := 205) rfl), List.forall_mem_cons.mpr ⟨tb_3 (List.mem_of_getElem? (i := 206) rfl), List.forall_mem_cons.mpr ⟨tb_3 (List.mem_of_getElem? (i := 207) rfl), List.forall_mem_cons.mpr ⟨tb_3 (List.mem_of_getElem? (i := 208) rfl), List.forall_mem_cons.mpr ⟨tb_3 (List.mem_of_getElem? (i := 209) rfl), List.forall_mem_cons.mpr ⟨tb_6 (List.mem_of_getElem? (i := 29) rfl), List.forall_mem_cons.mpr ⟨tb_6 (List.mem_of_getElem? (i := 30) rfl), List.forall_mem_cons.mpr ⟨tb_6 (List.mem_of_getElem? (i := 31) rfl), List.forall_mem_cons.mpr ⟨tb_6 (List.mem_of_getElem? (i := 32) rfl), List.forall_mem_cons.mpr ⟨tb_6 (List.mem_of_getElem? (i := 33) rfl), List.forall_mem_cons.mpr ⟨tb_6 (List.mem_of_getElem? (i := 35) rfl), List.forall_mem_cons.mpr ⟨sp_4 (q := (yX10_turnRound, 36)) (List.mem_of_getElem? (i := 8) rfl), List.forall_mem_cons.mpr ⟨tb_6 (List.mem_of_getElem? (i := 36) rfl), List.forall_mem_cons.mpr ⟨tb_3 (List.mem_of_getElem? (i := 210) rfl), List.forall_mem_cons.mpr ⟨tb_3 (List.mem_of_getElem? (i := 211) rfl), List.forall_mem_cons.mpr ⟨tb_3 (List.mem_of_getElem? (i := 212) rfl), List.forall_mem_cons.mpr ⟨tb_3 (List.mem_of_getElem? (i := 213) rfl), List.forall_mem_cons.mpr ⟨tb_3 (List.mem_of_getElem? (i := 214) rfl), List.forall_mem_cons.mpr ⟨tb_3 (List.mem_of_getElem? (i := 215) rfl), List.forall_mem_cons.mpr ⟨tb_3 (List.mem_of_getElem? (i := 216) rfl), List.forall_mem_cons.mpr ⟨tb_3 (List.mem_of_getElem? (i := 217) rfl), List.forall_mem_cons.mpr ⟨tb_3 (List.mem_of_getElem? (i := 218) rfl), List.forall_mem_cons.mpr ⟨tb_3 (List.mem_of_getElem? (i := 219) rfl), List.forall_mem_cons.mpr ⟨tb_3 (List.mem_of_getElem? (i := 221) rfl), fun _ h => absurd h List.not_mem_nil⟩⟩⟩⟩⟩⟩⟩⟩⟩⟩⟩⟩⟩⟩⟩⟩⟩⟩⟩⟩⟩⟩⟩⟩
set_option maxRecDepth 20000 in
theorem rl_31 : ∀ w ∈ wsL_law_r31, w ∈ lw_tbl := List.forall_mem_cons.mpr ⟨sp_2 (q := (yX6_isShorterTurned, 3)) (List.mem_of_getElem? (i := 2) rfl), List.forall_mem_cons.mpr ⟨tb_3 (List.mem_of_getElem? (i := 222) rfl), List.forall_mem_cons.mpr ⟨tb_3 (List.mem_of_getElem? (i := 223) rfl), List.forall_mem_cons.mpr ⟨tb_6 (List.mem_of_getElem? (i := 37) rfl), List.forall_mem_cons.mpr ⟨tb_6 (List.mem_of_getElem? (i := 38) rfl), List.forall_mem_cons.mpr ⟨tb_6 (List.mem_of_getElem? (i := 39) rfl), List.forall_mem_cons.mpr ⟨tb_6 (List.mem_of_getElem? (i := 40) rfl), List.forall_mem_cons.mpr ⟨tb_6 (List.mem_of_getElem? (i := 41) rfl), List.forall_mem_cons.mpr ⟨tb_6 (List.mem_of_getElem? (i := 42) rfl), List.forall_mem_cons.mpr ⟨tb_6 (List.mem_of_getElem? (i := 44) rfl), List.forall_mem_cons.mpr ⟨sp_4 (q := (yX10_betters, 36)) (List.mem_of_getElem? (i := 9) rfl), List.forall_mem_cons.mpr ⟨tb_6 (List.mem_of_getElem? (i := 45) rfl), List.forall_mem_cons.mpr ⟨tb_3 (List.mem_of_getElem? (i := 224) rfl), List.forall_mem_cons.mpr ⟨tb_3 (List.mem_of_getElem? (i := 225) rfl), List.forall_mem_cons.mpr ⟨tb_3 (List.mem_of_getElem? (i := 226) rfl), List.forall_mem_cons.mpr ⟨tb_3 (List.mem_of_getElem? (i := 227) rfl), List.forall_mem_cons.mpr ⟨tb_3 (List.mem_of_getElem? (i := 228) rfl), List.forall_mem_cons.mpr ⟨tb_3 (List.mem_of_getElem? (i := 229) rfl), List.forall_mem_cons.mpr ⟨tb_6 (List.mem_of_getElem? (i := 46) rfl), List.forall_mem_cons.mpr ⟨tb_6 (List.mem_of_getElem? (i := 47) rfl), List.forall_mem_cons.mpr ⟨tb_6 (List.mem_of_getElem? (i := 48) rfl), List.forall_mem_cons.mpr ⟨tb_6 (List.mem_of_getElem? (i := 49) rfl), List.forall_mem_cons.mpr ⟨tb_6 (List.mem_of_getElem? (i := 50) rfl), List.forall_mem_cons.mpr ⟨tb_6 (List.mem_of_getElem? (i := 51) rfl), fun _ h => absurd h List.not_mem_nil⟩⟩⟩⟩⟩⟩⟩⟩⟩⟩⟩⟩⟩⟩⟩⟩⟩⟩⟩⟩⟩⟩⟩⟩
set_option maxRecDepth 20000 in
theorem rl_32 : ∀ w ∈ wsL_law_r32, w ∈ lw_tbl := List.forall_mem_cons.mpr ⟨tb_3 (List.mem_of_getElem? (i := 230) rfl), List.forall_mem_cons.mpr ⟨tb_3 (List.mem_of_getElem? (i := 231) rfl), List.forall_mem_cons.mpr ⟨tb_3 (List.mem_of_getElem? (i := 232) rfl), List.forall_mem_cons.mpr ⟨tb_3 (List.mem_of_getElem? (i := 233) rfl), List.forall_mem_cons.mpr ⟨tb_4 (List.mem_of_getElem? (i := 77) rfl), List.forall_mem_cons.mpr ⟨tb_3 (List.mem_of_getElem? (i := 234) rfl), List.forall_mem_cons.mpr ⟨tb_3 (List.mem_of_getElem? (i := 236) rfl), List.forall_mem_cons.mpr ⟨sp_2 (q := (yX9_isTooSmall, 10)) (List.mem_of_getElem? (i := 3) rfl), List.forall_mem_cons.mpr ⟨tb_3 (List.mem_of_getElem? (i := 237) rfl), List.forall_mem_cons.mpr ⟨tb_3 (List.mem_of_getElem? (i := 238) rfl), List.forall_mem_cons.mpr ⟨tb_4 (List.mem_of_getElem? (i := 0) rfl), List.forall_mem_cons.mpr ⟨sp_2 (q := (yX9_growEmptyCase, 10)) (List.mem_of_getElem? (i := 4) rfl), List.forall_mem_cons.mpr ⟨tb_4 (List.mem_of_getElem? (i := 1) rfl), List.forall_mem_cons.mpr ⟨tb_4 (List.mem_of_getElem? (i := 2) rfl), List.forall_mem_cons.mpr ⟨tb_4 (List.mem_of_getElem? (i := 4) rfl), List.forall_mem_cons.mpr ⟨sp_2 (q := (yX9_beginEmptyCase, 10)) (List.mem_of_getElem? (i := 5) rfl), List.forall_mem_cons.mpr ⟨tb_4 (List.mem_of_getElem? (i := 5) rfl), List.forall_mem_cons.mpr ⟨tb_4 (List.mem_of_getElem? (i := 6) rfl), List.forall_mem_cons.mpr ⟨tb_4 (List.mem_of_getElem? (i := 7) rfl), List.forall_mem_cons.mpr ⟨tb_4 (List.mem_of_getElem? (i := 8) rfl), List.forall_mem_cons.mpr ⟨tb_4 (List.mem_of_getElem? (i := 9) rfl), List.forall_mem_cons.mpr ⟨tb_4 (List.mem_of_getElem? (i := 10) rfl), List.forall_mem_cons.mpr ⟨tb_4 (List.mem_of_getElem? (i := 11) rfl), List.forall_mem_cons.mpr ⟨tb_4 (List.mem_of_getElem? (i := 12) rfl), fun _ h => absurd h List.not_mem_nil⟩⟩⟩⟩⟩⟩⟩⟩⟩⟩⟩⟩⟩⟩⟩⟩⟩⟩⟩⟩⟩⟩⟩⟩
set_option maxRecDepth 20000 in
theorem rl_33 : ∀ w ∈ wsL_law_r33, w ∈ lw_tbl := List.forall_mem_cons.mpr ⟨tb_4 (List.mem_of_getElem? (i := 13) rfl), List.forall_mem_cons.mpr ⟨tb_4 (List.mem_of_getElem? (i := 14) rfl), List.forall_mem_cons.mpr ⟨tb_4 (List.mem_of_getElem? (i := 15) rfl), List.forall_mem_cons.mpr ⟨tb_4 (List.mem_of_getElem? (i := 16) rfl), List.forall_mem_cons.mpr ⟨tb_4 (List.mem_of_getElem? (i := 18) rfl), List.forall_mem_cons.mpr ⟨sp_2 (q := (yX8_keyOf, 9)) (List.mem_of_getElem? (i := 6) rfl), List.forall_mem_cons.mpr ⟨tb_4 (List.mem_of_getElem? (i := 19) rfl), List.forall_mem_cons.mpr ⟨tb_4 (List.mem_of_getElem? (i := 20) rfl), List.forall_mem_cons.mpr ⟨tb_4 (List.mem_of_getElem? (i := 21) rfl), List.forall_mem_cons.mpr ⟨tb_4 (List.mem_of_getElem? (i := 22) rfl), List.forall_mem_cons.mpr ⟨tb_4 (List.mem_of_getElem? (i := 24) rfl), List.forall_mem_cons.mpr ⟨tb_4 (List.mem_of_getElem? (i := 25) rfl), List.forall_mem_cons.mpr ⟨tb_4 (List.mem_of_getElem? (i := 26) rfl), List.forall_mem_cons.mpr ⟨tb_4 (List.mem_of_getElem? (i := 28) rfl), List.forall_mem_cons.mpr ⟨sp_2 (q := (yX8_sort, 9)) (List.mem_of_getElem? (i := 7) rfl), List.forall_mem_cons.mpr ⟨tb_4 (List.mem_of_getElem? (i := 29) rfl), List.forall_mem_cons.mpr ⟨tb_4 (List.mem_of_getElem? (i := 30) rfl), List.forall_mem_cons.mpr ⟨tb_4 (List.mem_of_getElem? (i := 31) rfl), List.forall_mem_cons.mpr ⟨tb_4 (List.mem_of_getElem? (i := 32) rfl), List.forall_mem_cons.mpr ⟨tb_4 (List.mem_of_getElem? (i := 33) rfl), List.forall_mem_cons.mpr ⟨tb_4 (List.mem_of_getElem? (i := 34) rfl), List.forall_mem_cons.mpr ⟨tb_4 (List.mem_of_getElem? (i := 35) rfl), List.forall_mem_cons.mpr ⟨tb_4 (List.mem_of_getElem? (i := 36) rfl), List.forall_mem_cons.mpr ⟨tb_4 (List.mem_of_getElem? (i := 37) rfl), fun _ h => absurd h List.not_mem_nil⟩⟩⟩⟩⟩⟩⟩⟩⟩⟩⟩⟩⟩⟩⟩⟩⟩⟩⟩⟩⟩⟩⟩⟩
set_option maxRecDepth 20000 in
theorem rl_34 : ∀ w ∈ wsL_law_r34, w ∈ lw_tbl := List.forall_mem_cons.mpr ⟨tb_4 (List.mem_of_getElem? (i := 38) rfl), List.forall_mem_cons.mpr ⟨tb_4 (List.mem_of_getElem? (i := 40) rfl), List.forall_mem_cons.mpr ⟨sp_2 (q := (yX8_takeOthers, 9)) (List.mem_of_getElem? (i := 8) rfl), List.forall_mem_cons.mpr ⟨tb_4 (List.mem_of_getElem? (i := 41) rfl), List.forall_mem_cons.mpr ⟨tb_4 (List.mem_of_getElem? (i := 42) rfl), List.forall_mem_cons.mpr ⟨tb_4 (List.mem_of_getElem? (i := 43) rfl), List.forall_mem_cons.mpr ⟨tb_4 (List.mem_of_getElem? (i := 45) rfl), List.forall_mem_cons.mpr ⟨sp_2 (q := (yX8_pairAt, 9)) (List.mem_of_getElem? (i := 9) rfl), List.forall_mem_cons.mpr ⟨tb_4 (List.mem_of_getElem? (i := 46) rfl), List.forall_mem_cons.mpr ⟨tb_4 (List.mem_of_getElem? (i := 47) rfl), List.forall_mem_cons.mpr ⟨tb_4 (List.mem_of_getElem? (i := 49) rfl), List.forall_mem_cons.mpr ⟨tb_4 (List.mem_of_getElem? (i := 50) rfl), List.forall_mem_cons.mpr ⟨tb_4 (List.mem_of_getElem? (i := 52) rfl), List.forall_mem_cons.mpr ⟨tb_4 (List.mem_of_getElem? (i := 53) rfl), List.forall_mem_cons.mpr ⟨tb_4 (List.mem_of_getElem? (i := 55) rfl), List.forall_mem_cons.mpr ⟨tb_4 (List.mem_of_getElem? (i := 57) rfl), List.forall_mem_cons.mpr ⟨sp_2 (q := (yX8_mayTake, 9)) (List.mem_of_getElem? (i := 10) rfl), List.forall_mem_cons.mpr ⟨tb_4 (List.mem_of_getElem? (i := 58) rfl), List.forall_mem_cons.mpr ⟨tb_4 (List.mem_of_getElem? (i := 59) rfl), List.forall_mem_cons.mpr ⟨tb_4 (List.mem_of_getElem? (i := 61) rfl), List.forall_mem_cons.mpr ⟨sp_2 (q := (yX8_pricedAt, 9)) (List.mem_of_getElem? (i := 11) rfl), List.forall_mem_cons.mpr ⟨tb_4 (List.mem_of_getElem? (i := 62) rfl), List.forall_mem_cons.mpr ⟨tb_4 (List.mem_of_getElem? (i := 63) rfl), List.forall_mem_cons.mpr ⟨tb_4 (List.mem_of_getElem? (i := 65) rfl), fun _ h => absurd h List.not_mem_nil⟩⟩⟩⟩⟩⟩⟩⟩⟩⟩⟩⟩⟩⟩⟩⟩⟩⟩⟩⟩⟩⟩⟩⟩
set_option maxRecDepth 20000 in
theorem rl_35 : ∀ w ∈ wsL_law_r35, w ∈ lw_tbl := List.forall_mem_cons.mpr ⟨sp_2 (q := (yX8_take, 9)) (List.mem_of_getElem? (i := 12) rfl), List.forall_mem_cons.mpr ⟨tb_4 (List.mem_of_getElem? (i := 66) rfl), List.forall_mem_cons.mpr ⟨tb_4 (List.mem_of_getElem? (i := 67) rfl), List.forall_mem_cons.mpr ⟨tb_4 (List.mem_of_getElem? (i := 69) rfl), List.forall_mem_cons.mpr ⟨sp_2 (q := (yX8_takeOfFirst, 9)) (List.mem_of_getElem? (i := 13) rfl), List.forall_mem_cons.mpr ⟨tb_4 (List.mem_of_getElem? (i := 70) rfl), List.forall_mem_cons.mpr ⟨tb_4 (List.mem_of_getElem? (i := 71) rfl), List.forall_mem_cons.mpr ⟨tb_4 (List.mem_of_getElem? (i := 72) rfl), List.forall_mem_cons.mpr ⟨tb_4 (List.mem_of_getElem? (i := 73) rfl), List.forall_mem_cons.mpr ⟨tb_4 (List.mem_of_getElem? (i := 74) rfl), List.forall_mem_cons.mpr ⟨tb_4 (List.mem_of_getElem? (i := 75) rfl), List.forall_mem_cons.mpr ⟨tb_4 (List.mem_of_getElem? (i := 76) rfl), List.forall_mem_cons.mpr ⟨tb_4 (List.mem_of_getElem? (i := 78) rfl), List.forall_mem_cons.mpr ⟨tb_4 (List.mem_of_getElem? (i := 79) rfl), List.forall_mem_cons.mpr ⟨tb_4 (List.mem_of_getElem? (i := 80) rfl), List.forall_mem_cons.mpr ⟨tb_4 (List.mem_of_getElem? (i := 81) rfl), List.forall_mem_cons.mpr ⟨tb_4 (List.mem_of_getElem? (i := 82) rfl), List.forall_mem_cons.mpr ⟨tb_4 (List.mem_of_getElem? (i := 83) rfl), List.forall_mem_cons.mpr ⟨tb_4 (List.mem_of_getElem? (i := 84) rfl), List.forall_mem_cons.mpr ⟨tb_4 (List.mem_of_getElem? (i := 85) rfl), List.forall_mem_cons.mpr ⟨tb_6 (List.mem_of_getElem? (i := 52) rfl), List.forall_mem_cons.mpr ⟨tb_6 (List.mem_of_getElem? (i := 53) rfl), List.forall_mem_cons.mpr ⟨tb_6 (List.mem_of_getElem? (i := 54) rfl), List.forall_mem_cons.mpr ⟨tb_6 (List.mem_of_getElem? (i := 55) rfl), fun _ h => absurd h List.not_mem_nil⟩⟩⟩⟩⟩⟩⟩⟩⟩⟩⟩⟩⟩⟩⟩⟩⟩⟩⟩⟩⟩⟩⟩⟩
set_option maxRecDepth 20000 in
theorem rl_36 : ∀ w ∈ wsL_law_r36, w ∈ lw_tbl := List.forall_mem_cons.mpr ⟨tb_6 (List.mem_of_getElem? (i := 93) rfl), List.forall_mem_cons.mpr ⟨tb_5 (List.mem_of_getElem? (i := 20) rfl), List.forall_mem_cons.mpr ⟨tb_6 (List.mem_of_getElem? (i := 56) rfl), List.forall_mem_cons.mpr ⟨tb_6 (List.mem_of_getElem? (i := 58) rfl), List.forall_mem_cons.mpr ⟨sp_4 (q := (yX10_freeAll, 36)) (List.mem_of_getElem? (i := 10) rfl), List.forall_mem_cons.mpr ⟨tb_6 (List.mem_of_getElem? (i := 59) rfl), List.forall_mem_cons.mpr ⟨tb_6 (List.mem_of_getElem? (i := 60) rfl), List.forall_mem_cons.mpr ⟨tb_6 (List.mem_of_getElem? (i := 62) rfl), List.forall_mem_cons.mpr ⟨sp_4 (q := (yX10_tree, 36)) (List.mem_of_getElem? (i := 11) rfl), List.forall_mem_cons.mpr ⟨tb_6 (List.mem_of_getElem? (i := 63) rfl), List.forall_mem_cons.mpr ⟨tb_6 (List.mem_of_getElem? (i := 92) rfl), List.forall_mem_cons.mpr ⟨tb_6 (List.mem_of_getElem? (i := 64) rfl), List.forall_mem_cons.mpr ⟨tb_6 (List.mem_of_getElem? (i := 66) rfl), List.forall_mem_cons.mpr ⟨sp_4 (q := (yX10_nextPair, 36)) (List.mem_of_getElem? (i := 12) rfl), List.forall_mem_cons.mpr ⟨tb_6 (List.mem_of_getElem? (i := 67) rfl), List.forall_mem_cons.mpr ⟨tb_6 (List.mem_of_getElem? (i := 68) rfl), List.forall_mem_cons.mpr ⟨tb_6 (List.mem_of_getElem? (i := 70) rfl), List.forall_mem_cons.mpr ⟨sp_4 (q := (yX10_first, 36)) (List.mem_of_getElem? (i := 13) rfl), List.forall_mem_cons.mpr ⟨tb_6 (List.mem_of_getElem? (i := 71) rfl), List.forall_mem_cons.mpr ⟨tb_6 (List.mem_of_getElem? (i := 72) rfl), List.forall_mem_cons.mpr ⟨tb_6 (List.mem_of_getElem? (i := 74) rfl), List.forall_mem_cons.mpr ⟨sp_4 (q := (yX10_isPair, 36)) (List.mem_of_getElem? (i := 14) rfl), List.forall_mem_cons.mpr ⟨tb_6 (List.mem_of_getElem? (i := 75) rfl), List.forall_mem_cons.mpr ⟨tb_6 (List.mem_of_getElem? (i := 76) rfl), fun _ h => absurd h List.not_mem_nil⟩⟩⟩⟩⟩⟩⟩⟩⟩⟩⟩⟩⟩⟩⟩⟩⟩⟩⟩⟩⟩⟩⟩⟩
set_option maxRecDepth 20000 in
theorem rl_37 : ∀ w ∈ wsL_law_r37, w ∈ lw_tbl := List.forall_mem_cons.mpr ⟨tb_6 (List.mem_of_getElem? (i := 78) rfl), List.forall_mem_cons.mpr ⟨sp_4 (q := (yX10_hasWay, 36)) (List.mem_of_getElem? (i := 15) rfl), List.forall_mem_cons.mpr ⟨tb_6 (List.mem_of_getElem? (i := 79) rfl), List.forall_mem_cons.mpr ⟨tb_6 (List.mem_of_getElem? (i := 80) rfl), List.forall_mem_cons.mpr ⟨tb_6 (List.mem_of_getElem? (i := 82) rfl), List.forall_mem_cons.mpr ⟨sp_5 (q := (yX10_isAhead, 36)) (List.mem_of_getElem? (i := 0) rfl), List.forall_mem_cons.mpr ⟨tb_6 (List.mem_of_getElem? (i := 83) rfl), List.forall_mem_cons.mpr ⟨tb_6 (List.mem_of_getElem? (i := 84) rfl), List.forall_mem_cons.mpr ⟨tb_6 (List.mem_of_getElem? (i := 86) rfl), List.forall_mem_cons.mpr ⟨sp_5 (q := (yX10_priced, 36)) (List.mem_of_getElem? (i := 1) rfl), List.forall_mem_cons.mpr ⟨tb_6 (List.mem_of_getElem? (i := 87) rfl), List.forall_mem_cons.mpr ⟨tb_6 (List.mem_of_getElem? (i := 88) rfl), List.forall_mem_cons.mpr ⟨tb_6 (List.mem_of_getElem? (i := 90) rfl), List.forall_mem_cons.mpr ⟨sp_5 (q := (yX10_take, 36)) (List.mem_of_getElem? (i := 2) rfl), List.forall_mem_cons.mpr ⟨tb_6 (List.mem_of_getElem? (i := 91) rfl), List.forall_mem_cons.mpr ⟨tb_4 (List.mem_of_getElem? (i := 86) rfl), List.forall_mem_cons.mpr ⟨tb_4 (List.mem_of_getElem? (i := 87) rfl), List.forall_mem_cons.mpr ⟨tb_4 (List.mem_of_getElem? (i := 88) rfl), List.forall_mem_cons.mpr ⟨tb_4 (List.mem_of_getElem? (i := 89) rfl), List.forall_mem_cons.mpr ⟨tb_4 (List.mem_of_getElem? (i := 90) rfl), List.forall_mem_cons.mpr ⟨tb_6 (List.mem_of_getElem? (i := 94) rfl), List.forall_mem_cons.mpr ⟨tb_6 (List.mem_of_getElem? (i := 95) rfl), List.forall_mem_cons.mpr ⟨tb_6 (List.mem_of_getElem? (i := 96) rfl), List.forall_mem_cons.mpr ⟨tb_6 (List.mem_of_getElem? (i := 97) rfl), fun _ h => absurd h List.not_mem_nil⟩⟩⟩⟩⟩⟩⟩⟩⟩⟩⟩⟩⟩⟩⟩⟩⟩⟩⟩⟩⟩⟩⟩⟩
set_option maxRecDepth 20000 in
theorem rl_38 : ∀ w ∈ wsL_law_r38, w ∈ lw_tbl := List.forall_mem_cons.mpr ⟨tb_6 (List.mem_of_getElem? (i := 98) rfl), List.forall_mem_cons.mpr ⟨tb_4 (List.mem_of_getElem? (i := 91) rfl), List.forall_mem_cons.mpr ⟨tb_4 (List.mem_of_getElem? (i := 92) rfl), List.forall_mem_cons.mpr ⟨tb_4 (List.mem_of_getElem? (i := 93) rfl), List.forall_mem_cons.mpr ⟨tb_4 (List.mem_of_getElem? (i := 94) rfl), List.forall_mem_cons.mpr ⟨tb_6 (List.mem_of_getElem? (i := 99) rfl), List.forall_mem_cons.mpr ⟨tb_6 (List.mem_of_getElem? (i := 100) rfl), List.forall_mem_cons.mpr ⟨tb_6 (List.mem_of_getElem? (i := 101) rfl), List.forall_mem_cons.mpr ⟨tb_6 (List.mem_of_getElem? (i := 102) rfl), List.forall_mem_cons.mpr ⟨tb_4 (List.mem_of_getElem? (i := 95) rfl), List.forall_mem_cons.mpr ⟨tb_4 (List.mem_of_getElem? (i := 96) rfl), List.forall_mem_cons.mpr ⟨tb_4 (List.mem_of_getElem? (i := 97) rfl), List.forall_mem_cons.mpr ⟨tb_4 (List.mem_of_getElem? (i := 98) rfl), List.forall_mem_cons.mpr ⟨tb_4 (List.mem_of_getElem? (i := 99) rfl), List.forall_mem_cons.mpr ⟨tb_4 (List.mem_of_getElem? (i := 100) rfl), List.forall_mem_cons.mpr ⟨tb_4 (List.mem_of_getElem? (i := 101) rfl), List.forall_mem_cons.mpr ⟨tb_4 (List.mem_of_getElem? (i := 102) rfl), List.forall_mem_cons.mpr ⟨tb_4 (List.mem_of_getElem? (i := 103) rfl), List.forall_mem_cons.mpr ⟨tb_4 (List.mem_of_getElem? (i := 105) rfl), List.forall_mem_cons.mpr ⟨sp_2 (q := (yX1_writeNext, 3)) (List.mem_of_getElem? (i := 14) rfl), List.forall_mem_cons.mpr ⟨tb_4 (List.mem_of_getElem? (i := 106) rfl), List.forall_mem_cons.mpr ⟨tb_4 (List.mem_of_getElem? (i := 107) rfl), List.forall_mem_cons.mpr ⟨tb_4 (List.mem_of_getElem? (i := 109) rfl), List.forall_mem_cons.mpr ⟨sp_2 (q := (yX1_writeTwins, 3)) (List.mem_of_getElem? (i := 15) rfl), fun _ h => absurd h List.not_mem_nil⟩⟩⟩⟩⟩⟩⟩⟩⟩⟩⟩⟩⟩⟩⟩⟩⟩⟩⟩⟩⟩⟩⟩⟩
set_option maxRecDepth 20000 in
theorem rl_39 : ∀ w ∈ wsL_law_r39, w ∈ lw_tbl := List.forall_mem_cons.mpr ⟨tb_4 (List.mem_of_getElem? (i := 110) rfl), List.forall_mem_cons.mpr ⟨tb_4 (List.mem_of_getElem? (i := 111) rfl), List.forall_mem_cons.mpr ⟨tb_4 (List.mem_of_getElem? (i := 113) rfl), List.forall_mem_cons.mpr ⟨sp_3 (q := (yX1_partedTwins, 3)) (List.mem_of_getElem? (i := 0) rfl), List.forall_mem_cons.mpr ⟨tb_4 (List.mem_of_getElem? (i := 114) rfl), List.forall_mem_cons.mpr ⟨tb_4 (List.mem_of_getElem? (i := 116) rfl), List.forall_mem_cons.mpr ⟨tb_4 (List.mem_of_getElem? (i := 117) rfl), List.forall_mem_cons.mpr ⟨tb_4 (List.mem_of_getElem? (i := 118) rfl), List.forall_mem_cons.mpr ⟨tb_4 (List.mem_of_getElem? (i := 119) rfl), List.forall_mem_cons.mpr ⟨tb_4 (List.mem_of_getElem? (i := 120) rfl), List.forall_mem_cons.mpr ⟨tb_4 (List.mem_of_getElem? (i := 121) rfl), List.forall_mem_cons.mpr ⟨tb_4 (List.mem_of_getElem? (i := 122) rfl), List.forall_mem_cons.mpr ⟨tb_4 (List.mem_of_getElem? (i := 123) rfl), List.forall_mem_cons.mpr ⟨tb_4 (List.mem_of_getElem? (i := 124) rfl), List.forall_mem_cons.mpr ⟨tb_4 (List.mem_of_getElem? (i := 126) rfl), List.forall_mem_cons.mpr ⟨sp_3 (q := (yX1_writeAlone, 3)) (List.mem_of_getElem? (i := 1) rfl), List.forall_mem_cons.mpr ⟨tb_4 (List.mem_of_getElem? (i := 127) rfl), List.forall_mem_cons.mpr ⟨tb_4 (List.mem_of_getElem? (i := 128) rfl), List.forall_mem_cons.mpr ⟨tb_4 (List.mem_of_getElem? (i := 129) rfl), List.forall_mem_cons.mpr ⟨tb_4 (List.mem_of_getElem? (i := 131) rfl), List.forall_mem_cons.mpr ⟨sp_3 (q := (yX1_standsAlone, 3)) (List.mem_of_getElem? (i := 2) rfl), List.forall_mem_cons.mpr ⟨tb_4 (List.mem_of_getElem? (i := 132) rfl), List.forall_mem_cons.mpr ⟨tb_4 (List.mem_of_getElem? (i := 133) rfl), List.forall_mem_cons.mpr ⟨tb_4 (List.mem_of_getElem? (i := 134) rfl), fun _ h => absurd h List.not_mem_nil⟩⟩⟩⟩⟩⟩⟩⟩⟩⟩⟩⟩⟩⟩⟩⟩⟩⟩⟩⟩⟩⟩⟩⟩
set_option maxRecDepth 20000 in
theorem rl_40 : ∀ w ∈ wsL_law_r40, w ∈ lw_tbl := List.forall_mem_cons.mpr ⟨tb_4 (List.mem_of_getElem? (i := 135) rfl), List.forall_mem_cons.mpr ⟨tb_4 (List.mem_of_getElem? (i := 136) rfl), List.forall_mem_cons.mpr ⟨tb_4 (List.mem_of_getElem? (i := 137) rfl), List.forall_mem_cons.mpr ⟨tb_4 (List.mem_of_getElem? (i := 138) rfl), List.forall_mem_cons.mpr ⟨tb_4 (List.mem_of_getElem? (i := 140) rfl), List.forall_mem_cons.mpr ⟨tb_4 (List.mem_of_getElem? (i := 142) rfl), List.forall_mem_cons.mpr ⟨sp_3 (q := (yX1_isRing, 3)) (List.mem_of_getElem? (i := 3) rfl), List.forall_mem_cons.mpr ⟨tb_4 (List.mem_of_getElem? (i := 143) rfl), List.forall_mem_cons.mpr ⟨tb_4 (List.mem_of_getElem? (i := 144) rfl), List.forall_mem_cons.mpr ⟨tb_4 (List.mem_of_getElem? (i := 146) rfl), List.forall_mem_cons.mpr ⟨sp_3 (q := (yX1_pricesStand, 3)) (List.mem_of_getElem? (i := 4) rfl), List.forall_mem_cons.mpr ⟨tb_4 (List.mem_of_getElem? (i := 147) rfl), List.forall_mem_cons.mpr ⟨tb_4 (List.mem_of_getElem? (i := 148) rfl), List.forall_mem_cons.mpr ⟨tb_4 (List.mem_of_getElem? (i := 149) rfl), List.forall_mem_cons.mpr ⟨tb_4 (List.mem_of_getElem? (i := 150) rfl), List.forall_mem_cons.mpr ⟨tb_4 (List.mem_of_getElem? (i := 151) rfl), List.forall_mem_cons.mpr ⟨tb_4 (List.mem_of_getElem? (i := 152) rfl), List.forall_mem_cons.mpr ⟨tb_4 (List.mem_of_getElem? (i := 153) rfl), List.forall_mem_cons.mpr ⟨tb_4 (List.mem_of_getElem? (i := 154) rfl), List.forall_mem_cons.mpr ⟨tb_4 (List.mem_of_getElem? (i := 155) rfl), List.forall_mem_cons.mpr ⟨tb_4 (List.mem_of_getElem? (i := 156) rfl), List.forall_mem_cons.mpr ⟨tb_4 (List.mem_of_getElem? (i := 157) rfl), List.forall_mem_cons.mpr ⟨tb_4 (List.mem_of_getElem? (i := 160) rfl), List.forall_mem_cons.mpr ⟨tb_4 (List.mem_of_getElem? (i := 162) rfl), fun _ h => absurd h List.not_mem_nil⟩⟩⟩⟩⟩⟩⟩⟩⟩⟩⟩⟩⟩⟩⟩⟩⟩⟩⟩⟩⟩⟩⟩⟩
set_option maxRecDepth 20000 in
theorem rl_41 : ∀ w ∈ wsL_law_r41, w ∈ lw_tbl := List.forall_mem_cons.mpr ⟨sp_3 (q := (yX1_follow, 3)) (List.mem_of_getElem? (i := 5) rfl), List.forall_mem_cons.mpr ⟨tb_4 (List.mem_of_getElem? (i := 163) rfl), List.forall_mem_cons.mpr ⟨tb_4 (List.mem_of_getElem? (i := 164) rfl), List.forall_mem_cons.mpr ⟨tb_4 (List.mem_of_getElem? (i := 165) rfl), List.forall_mem_cons.mpr ⟨tb_4 (List.mem_of_getElem? (i := 166) rfl), List.forall_mem_cons.mpr ⟨tb_4 (List.mem_of_getElem? (i := 167) rfl), List.forall_mem_cons.mpr ⟨tb_4 (List.mem_of_getElem? (i := 169) rfl), List.forall_mem_cons.mpr ⟨tb_4 (List.mem_of_getElem? (i := 171) rfl), List.forall_mem_cons.mpr ⟨sp_3 (q := (yX0_toggle, 6)) (List.mem_of_getElem? (i := 6) rfl), List.forall_mem_cons.mpr ⟨tb_4 (List.mem_of_getElem? (i := 172) rfl), List.forall_mem_cons.mpr ⟨tb_4 (List.mem_of_getElem? (i := 175) rfl), List.forall_mem_cons.mpr ⟨tb_4 (List.mem_of_getElem? (i := 176) rfl), List.forall_mem_cons.mpr ⟨tb_4 (List.mem_of_getElem? (i := 177) rfl), List.forall_mem_cons.mpr ⟨tb_4 (List.mem_of_getElem? (i := 178) rfl), List.forall_mem_cons.mpr ⟨tb_4 (List.mem_of_getElem? (i := 179) rfl), List.forall_mem_cons.mpr ⟨tb_4 (List.mem_of_getElem? (i := 180) rfl), List.forall_mem_cons.mpr ⟨tb_4 (List.mem_of_getElem? (i := 181) rfl), List.forall_mem_cons.mpr ⟨tb_4 (List.mem_of_getElem? (i := 182) rfl), List.forall_mem_cons.mpr ⟨tb_4 (List.mem_of_getElem? (i := 183) rfl), List.forall_mem_cons.mpr ⟨tb_6 (List.mem_of_getElem? (i := 103) rfl), List.forall_mem_cons.mpr ⟨tb_6 (List.mem_of_getElem? (i := 104) rfl), List.forall_mem_cons.mpr ⟨tb_6 (List.mem_of_getElem? (i := 105) rfl), List.forall_mem_cons.mpr ⟨tb_6 (List.mem_of_getElem? (i := 106) rfl), List.forall_mem_cons.mpr ⟨tb_5 (List.mem_of_getElem? (i := 28) rfl), fun _ h => absurd h List.not_mem_nil⟩⟩⟩⟩⟩⟩⟩⟩⟩⟩⟩⟩⟩⟩⟩⟩⟩⟩⟩⟩⟩⟩⟩⟩
set_option maxRecDepth 20000 in
theorem rl_42 : ∀ w ∈ wsL_law_r42, w ∈ lw_tbl := List.forall_mem_cons.mpr ⟨tb_5 (List.mem_of_getElem? (i := 23) rfl), List.forall_mem_cons.mpr ⟨tb_6 (List.mem_of_getElem? (i := 107) rfl), List.forall_mem_cons.mpr ⟨tb_6 (List.mem_of_getElem? (i := 109) rfl), List.forall_mem_cons.mpr ⟨sp_5 (q := (yX10_pushCase, 36)) (List.mem_of_getElem? (i := 3) rfl), List.forall_mem_cons.mpr ⟨tb_6 (List.mem_of_getElem? (i := 110) rfl), List.forall_mem_cons.mpr ⟨tb_6 (List.mem_of_getElem? (i := 111) rfl), List.forall_mem_cons.mpr ⟨tb_6 (List.mem_of_getElem? (i := 113) rfl), List.forall_mem_cons.mpr ⟨sp_5 (q := (yX10_popCase, 36)) (List.mem_of_getElem? (i := 4) rfl), List.forall_mem_cons.mpr ⟨tb_6 (List.mem_of_getElem? (i := 114) rfl), List.forall_mem_cons.mpr ⟨tb_6 (List.mem_of_getElem? (i := 115) rfl), List.forall_mem_cons.mpr ⟨tb_6 (List.mem_of_getElem? (i := 117) rfl), List.forall_mem_cons.mpr ⟨sp_5 (q := (yX10_ending, 36)) (List.mem_of_getElem? (i := 5) rfl), List.forall_mem_cons.mpr ⟨tb_6 (List.mem_of_getElem? (i := 118) rfl), List.forall_mem_cons.mpr ⟨tb_6 (List.mem_of_getElem? (i := 119) rfl), List.forall_mem_cons.mpr ⟨tb_6 (List.mem_of_getElem? (i := 121) rfl), List.forall_mem_cons.mpr ⟨sp_5 (q := (yX10_isTwins, 36)) (List.mem_of_getElem? (i := 6) rfl), List.forall_mem_cons.mpr ⟨tb_6 (List.mem_of_getElem? (i := 122) rfl), List.forall_mem_cons.mpr ⟨tb_6 (List.mem_of_getElem? (i := 123) rfl), List.forall_mem_cons.mpr ⟨tb_6 (List.mem_of_getElem? (i := 124) rfl), List.forall_mem_cons.mpr ⟨tb_6 (List.mem_of_getElem? (i := 125) rfl), List.forall_mem_cons.mpr ⟨tb_6 (List.mem_of_getElem? (i := 126) rfl), List.forall_mem_cons.mpr ⟨tb_6 (List.mem_of_getElem? (i := 128) rfl), List.forall_mem_cons.mpr ⟨sp_5 (q := (yX10_stands, 36)) (List.mem_of_getElem? (i := 7) rfl), List.forall_mem_cons.mpr ⟨tb_6 (List.mem_of_getElem? (i := 129) rfl), fun _ h => absurd h List.not_mem_nil⟩⟩⟩⟩⟩⟩⟩⟩⟩⟩⟩⟩⟩⟩⟩⟩⟩⟩⟩⟩⟩⟩⟩⟩
set_option maxRecDepth 20000 in
theorem rl_43 : ∀ w ∈ wsL_law_r43, w ∈ lw_tbl := List.forall_mem_cons.mpr ⟨tb_6 (List.mem_of_getElem? (i := 130) rfl), List.forall_mem_cons.mpr ⟨tb_6 (List.mem_of_getElem? (i := 132) rfl), List.forall_mem_cons.mpr ⟨sp_5 (q := (yX10_isPart, 36)) (List.mem_of_getElem? (i := 8) rfl), List.forall_mem_cons.mpr ⟨tb_6 (List.mem_of_getElem? (i := 133) rfl), List.forall_mem_cons.mpr ⟨tb_6 (List.mem_of_getElem? (i := 134) rfl), List.forall_mem_cons.mpr ⟨tb_6 (List.mem_of_getElem? (i := 136) rfl), List.forall_mem_cons.mpr ⟨sp_5 (q := (yX10_isFew, 36)) (List.mem_of_getElem? (i := 9) rfl), List.forall_mem_cons.mpr ⟨tb_6 (List.mem_of_getElem? (i := 137) rfl), List.forall_mem_cons.mpr ⟨tb_6 (List.mem_of_getElem? (i := 138) rfl), List.forall_mem_cons.mpr ⟨tb_6 (List.mem_of_getElem? (i := 140) rfl), List.forall_mem_cons.mpr ⟨sp_5 (q := (yX10_isMany, 36)) (List.mem_of_getElem? (i := 10) rfl), List.forall_mem_cons.mpr ⟨tb_6 (List.mem_of_getElem? (i := 141) rfl), List.forall_mem_cons.mpr ⟨tb_6 (List.mem_of_getElem? (i := 142) rfl), List.forall_mem_cons.mpr ⟨tb_6 (List.mem_of_getElem? (i := 144) rfl), List.forall_mem_cons.mpr ⟨sp_5 (q := (yX10_joinedOf, 36)) (List.mem_of_getElem? (i := 11) rfl), List.forall_mem_cons.mpr ⟨tb_6 (List.mem_of_getElem? (i := 145) rfl), List.forall_mem_cons.mpr ⟨tb_6 (List.mem_of_getElem? (i := 146) rfl), List.forall_mem_cons.mpr ⟨tb_6 (List.mem_of_getElem? (i := 148) rfl), List.forall_mem_cons.mpr ⟨sp_5 (q := (yX10_isRing, 36)) (List.mem_of_getElem? (i := 12) rfl), List.forall_mem_cons.mpr ⟨tb_6 (List.mem_of_getElem? (i := 149) rfl), List.forall_mem_cons.mpr ⟨tb_6 (List.mem_of_getElem? (i := 150) rfl), List.forall_mem_cons.mpr ⟨tb_6 (List.mem_of_getElem? (i := 152) rfl), List.forall_mem_cons.mpr ⟨sp_5 (q := (yX10_freePair, 36)) (List.mem_of_getElem? (i := 13) rfl), List.forall_mem_cons.mpr ⟨tb_6 (List.mem_of_getElem? (i := 153) rfl), fun _ h => absurd h List.not_mem_nil⟩⟩⟩⟩⟩⟩⟩⟩⟩⟩⟩⟩⟩⟩⟩⟩⟩⟩⟩⟩⟩⟩⟩⟩
set_option maxRecDepth 20000 in
theorem rl_44 : ∀ w ∈ wsL_law_r44, w ∈ lw_tbl := List.forall_mem_cons.mpr ⟨tb_6 (List.mem_of_getElem? (i := 154) rfl), List.forall_mem_cons.mpr ⟨tb_6 (List.mem_of_getElem? (i := 156) rfl), List.forall_mem_cons.mpr ⟨sp_5 (q := (yX10_write_, 36)) (List.mem_of_getElem? (i := 14) rfl), List.forall_mem_cons.mpr ⟨tb_6 (List.mem_of_getElem? (i := 157) rfl), List.forall_mem_cons.mpr ⟨tb_6 (List.mem_of_getElem? (i := 158) rfl), List.forall_mem_cons.mpr ⟨tb_6 (List.mem_of_getElem? (i := 160) rfl), List.forall_mem_cons.mpr ⟨sp_5 (q := (yX10_part, 36)) (List.mem_of_getElem? (i := 15) rfl), List.forall_mem_cons.mpr ⟨tb_6 (List.mem_of_getElem? (i := 161) rfl), List.forall_mem_cons.mpr ⟨tb_4 (List.mem_of_getElem? (i := 184) rfl), List.forall_mem_cons.mpr ⟨tb_4 (List.mem_of_getElem? (i := 185) rfl), List.forall_mem_cons.mpr ⟨tb_4 (List.mem_of_getElem? (i := 186) rfl), List.forall_mem_cons.mpr ⟨tb_4 (List.mem_of_getElem? (i := 187) rfl), List.forall_mem_cons.mpr ⟨tb_4 (List.mem_of_getElem? (i := 188) rfl), List.forall_mem_cons.mpr ⟨tb_4 (List.mem_of_getElem? (i := 189) rfl), List.forall_mem_cons.mpr ⟨tb_4 (List.mem_of_getElem? (i := 190) rfl), List.forall_mem_cons.mpr ⟨tb_4 (List.mem_of_getElem? (i := 191) rfl), List.forall_mem_cons.mpr ⟨tb_6 (List.mem_of_getElem? (i := 162) rfl), List.forall_mem_cons.mpr ⟨tb_6 (List.mem_of_getElem? (i := 163) rfl), List.forall_mem_cons.mpr ⟨tb_6 (List.mem_of_getElem? (i := 164) rfl), List.forall_mem_cons.mpr ⟨tb_6 (List.mem_of_getElem? (i := 165) rfl), List.forall_mem_cons.mpr ⟨tb_6 (List.mem_of_getElem? (i := 166) rfl), List.forall_mem_cons.mpr ⟨tb_6 (List.mem_of_getElem? (i := 167) rfl), List.forall_mem_cons.mpr ⟨tb_6 (List.mem_of_getElem? (i := 168) rfl), List.forall_mem_cons.mpr ⟨tb_6 (List.mem_of_getElem? (i := 169) rfl), fun _ h => absurd h List.not_mem_nil⟩⟩⟩⟩⟩⟩⟩⟩⟩⟩⟩⟩⟩⟩⟩⟩⟩⟩⟩⟩⟩⟩⟩⟩
set_option maxRecDepth 20000 in
theorem rl_45 : ∀ w ∈ wsL_law_r45, w ∈ lw_tbl := List.forall_mem_cons.mpr ⟨tb_4 (List.mem_of_getElem? (i := 192) rfl), List.forall_mem_cons.mpr ⟨tb_4 (List.mem_of_getElem? (i := 193) rfl), List.forall_mem_cons.mpr ⟨tb_4 (List.mem_of_getElem? (i := 194) rfl), List.forall_mem_cons.mpr ⟨tb_4 (List.mem_of_getElem? (i := 195) rfl), List.forall_mem_cons.mpr ⟨tb_4 (List.mem_of_getElem? (i := 196) rfl), List.forall_mem_cons.mpr ⟨tb_4 (List.mem_of_getElem? (i := 197) rfl), List.forall_mem_cons.mpr ⟨tb_4 (List.mem_of_getElem? (i := 198) rfl), List.forall_mem_cons.mpr ⟨tb_4 (List.mem_of_getElem? (i := 199) rfl), List.forall_mem_cons.mpr ⟨tb_4 (List.mem_of_getElem? (i := 200) rfl), List.forall_mem_cons.mpr ⟨tb_6 (List.mem_of_getElem? (i := 170) rfl), List.forall_mem_cons.mpr ⟨tb_4 (List.mem_of_getElem? (i := 201) rfl), List.forall_mem_cons.mpr ⟨tb_4 (List.mem_of_getElem? (i := 202) rfl), List.forall_mem_cons.mpr ⟨tb_4 (List.mem_of_getElem? (i := 203) rfl), List.forall_mem_cons.mpr ⟨tb_4 (List.mem_of_getElem? (i := 204) rfl), List.forall_mem_cons.mpr ⟨tb_6 (List.mem_of_getElem? (i := 171) rfl), List.forall_mem_cons.mpr ⟨tb_6 (List.mem_of_getElem? (i := 172) rfl), List.forall_mem_cons.mpr ⟨tb_6 (List.mem_of_getElem? (i := 173) rfl), List.forall_mem_cons.mpr ⟨tb_6 (List.mem_of_getElem? (i := 174) rfl), List.forall_mem_cons.mpr ⟨tb_4 (List.mem_of_getElem? (i := 205) rfl), List.forall_mem_cons.mpr ⟨tb_4 (List.mem_of_getElem? (i := 206) rfl), List.forall_mem_cons.mpr ⟨tb_4 (List.mem_of_getElem? (i := 207) rfl), List.forall_mem_cons.mpr ⟨tb_4 (List.mem_of_getElem? (i := 208) rfl), List.forall_mem_cons.mpr ⟨tb_6 (List.mem_of_getElem? (i := 175) rfl), List.forall_mem_cons.mpr ⟨tb_6 (List.mem_of_getElem? (i := 176) rfl), fun _ h => absurd h List.not_mem_nil⟩⟩⟩⟩⟩⟩⟩⟩⟩⟩⟩⟩⟩⟩⟩⟩⟩⟩⟩⟩⟩⟩⟩⟩
set_option maxRecDepth 20000 in
theorem rl_46 : ∀ w ∈ wsL_law_r46, w ∈ lw_tbl := List.forall_mem_cons.mpr ⟨tb_6 (List.mem_of_getElem? (i := 177) rfl), List.forall_mem_cons.mpr ⟨tb_6 (List.mem_of_getElem? (i := 178) rfl), List.forall_mem_cons.mpr ⟨tb_4 (List.mem_of_getElem? (i := 209) rfl), List.forall_mem_cons.mpr ⟨tb_4 (List.mem_of_getElem? (i := 210) rfl), List.forall_mem_cons.mpr ⟨tb_4 (List.mem_of_getElem? (i := 211) rfl), List.forall_mem_cons.mpr ⟨tb_4 (List.mem_of_getElem? (i := 212) rfl), List.forall_mem_cons.mpr ⟨tb_4 (List.mem_of_getElem? (i := 213) rfl), List.forall_mem_cons.mpr ⟨tb_4 (List.mem_of_getElem? (i := 214) rfl), List.forall_mem_cons.mpr ⟨tb_4 (List.mem_of_getElem? (i := 215) rfl), List.forall_mem_cons.mpr ⟨tb_4 (List.mem_of_getElem? (i := 216) rfl), List.forall_mem_cons.mpr ⟨tb_4 (List.mem_of_getElem? (i := 217) rfl), List.forall_mem_cons.mpr ⟨tb_4 (List.mem_of_getElem? (i := 219) rfl), List.forall_mem_cons.mpr ⟨sp_3 (q := (yX1_canStand, 3)) (List.mem_of_getElem? (i := 7) rfl), List.forall_mem_cons.mpr ⟨tb_4 (List.mem_of_getElem? (i := 220) rfl), List.forall_mem_cons.mpr ⟨tb_4 (List.mem_of_getElem? (i := 221) rfl), List.forall_mem_cons.mpr ⟨tb_6 (List.mem_of_getElem? (i := 179) rfl), List.forall_mem_cons.mpr ⟨tb_6 (List.mem_of_getElem? (i := 180) rfl), List.forall_mem_cons.mpr ⟨tb_6 (List.mem_of_getElem? (i := 181) rfl), List.forall_mem_cons.mpr ⟨tb_6 (List.mem_of_getElem? (i := 182) rfl), fun _ h => absurd h List.not_mem_nil⟩⟩⟩⟩⟩⟩⟩⟩⟩⟩⟩⟩⟩⟩⟩⟩⟩⟩⟩
set_option maxRecDepth 20000 in
theorem tl_X0 : ∀ w ∈ wsX00, w ∈ lw_tbl := show ∀ w ∈ ([u_lay RX0 TX0 0, u_lay RX0 TX0 1, u_lay RX0 TX0 2, u_lay RX0 TX0 3, u_lay RX0 TX0 4, u_lay RX0 TX0 5] : List Cond), w ∈ lw_tbl from List.forall_mem_cons.mpr ⟨tb_1 (List.mem_of_getElem? (i := 224) rfl), List.forall_mem_cons.mpr ⟨tb_1 (List.mem_of_getElem? (i := 226) rfl), List.forall_mem_cons.mpr ⟨tb_1 (List.mem_of_getElem? (i := 228) rfl), List.forall_mem_cons.mpr ⟨tb_1 (List.mem_of_getElem? (i := 230) rfl), List.forall_mem_cons.mpr ⟨tb_1 (List.mem_of_getElem? (i := 232) rfl), List.forall_mem_cons.mpr ⟨tb_1 (List.mem_of_getElem? (i := 234) rfl), fun _ h => absurd h List.not_mem_nil⟩⟩⟩⟩⟩⟩
set_option maxRecDepth 20000 in
theorem tl_X1 : ∀ w ∈ wsX10, w ∈ lw_tbl := show ∀ w ∈ ([u_lay RX1 TX1 0, u_lay RX1 TX1 1, u_lay RX1 TX1 2] : List Cond), w ∈ lw_tbl from List.forall_mem_cons.mpr ⟨tb_2 (List.mem_of_getElem? (i := 42) rfl), List.forall_mem_cons.mpr ⟨tb_2 (List.mem_of_getElem? (i := 44) rfl), List.forall_mem_cons.mpr ⟨tb_2 (List.mem_of_getElem? (i := 46) rfl), fun _ h => absurd h List.not_mem_nil⟩⟩⟩
set_option maxRecDepth 20000 in
theorem tl_X2 : ∀ w ∈ wsX20, w ∈ lw_tbl := show ∀ w ∈ ([u_lay RX2 TX2 0, u_lay RX2 TX2 1, u_lay RX2 TX2 2, u_lay RX2 TX2 3, u_lay RX2 TX2 4, u_lay RX2 TX2 5, u_lay RX2 TX2 6, u_lay RX2 TX2 7, u_lay RX2 TX2 8, u_lay RX2 TX2 9, u_lay RX2 TX2 10] : List Cond), w ∈ lw_tbl from List.forall_mem_cons.mpr ⟨tb_1 (List.mem_of_getElem? (i := 121) rfl), List.forall_mem_cons.mpr ⟨tb_1 (List.mem_of_getElem? (i := 123) rfl), List.forall_mem_cons.mpr ⟨tb_1 (List.mem_of_getElem? (i := 125) rfl), List.forall_mem_cons.mpr ⟨tb_1 (List.mem_of_getElem? (i := 127) rfl), List.forall_mem_cons.mpr ⟨tb_1 (List.mem_of_getElem? (i := 129) rfl), List.forall_mem_cons.mpr ⟨tb_1 (List.mem_of_getElem? (i := 131) rfl), List.forall_mem_cons.mpr ⟨tb_1 (List.mem_of_getElem? (i := 133) rfl), List.forall_mem_cons.mpr ⟨tb_1 (List.mem_of_getElem? (i := 135) rfl), List.forall_mem_cons.mpr ⟨tb_1 (List.mem_of_getElem? (i := 137) rfl), List.forall_mem_cons.mpr ⟨tb_1 (List.mem_of_getElem? (i := 139) rfl), List.forall_mem_cons.mpr ⟨tb_1 (List.mem_of_getElem? (i := 141) rfl), fun _ h => absurd h List.not_mem_nil⟩⟩⟩⟩⟩⟩⟩⟩⟩⟩⟩
set_option maxRecDepth 20000 in
theorem tl_X3 : ∀ w ∈ wsX30, w ∈ lw_tbl := show ∀ w ∈ ([u_lay RX3 TX3 0, u_lay RX3 TX3 1, u_lay RX3 TX3 2, u_lay RX3 TX3 3] : List Cond), w ∈ lw_tbl from List.forall_mem_cons.mpr ⟨tb_2 (List.mem_of_getElem? (i := 67) rfl), List.forall_mem_cons.mpr ⟨tb_2 (List.mem_of_getElem? (i := 69) rfl), List.forall_mem_cons.mpr ⟨tb_2 (List.mem_of_getElem? (i := 71) rfl), List.forall_mem_cons.mpr ⟨tb_2 (List.mem_of_getElem? (i := 73) rfl), fun _ h => absurd h List.not_mem_nil⟩⟩⟩⟩
set_option maxRecDepth 20000 in
theorem tl_X4 : ∀ w ∈ wsX40, w ∈ lw_tbl := show ∀ w ∈ ([u_lay RX4 TX4 0, u_lay RX4 TX4 1, u_lay RX4 TX4 2] : List Cond), w ∈ lw_tbl from List.forall_mem_cons.mpr ⟨tb_1 (List.mem_of_getElem? (i := 40) rfl), List.forall_mem_cons.mpr ⟨tb_1 (List.mem_of_getElem? (i := 42) rfl), List.forall_mem_cons.mpr ⟨tb_1 (List.mem_of_getElem? (i := 44) rfl), fun _ h => absurd h List.not_mem_nil⟩⟩⟩
set_option maxRecDepth 20000 in
theorem tl_X5 : ∀ w ∈ wsX50, w ∈ lw_tbl := show ∀ w ∈ ([u_lay RX5 TX5 0, u_lay RX5 TX5 1, u_lay RX5 TX5 2, u_lay RX5 TX5 3, u_lay RX5 TX5 4, u_lay RX5 TX5 5, u_lay RX5 TX5 6, u_lay RX5 TX5 7, u_lay RX5 TX5 8, u_lay RX5 TX5 9] : List Cond), w ∈ lw_tbl from List.forall_mem_cons.mpr ⟨tb_1 (List.mem_of_getElem? (i := 186) rfl), List.forall_mem_cons.mpr ⟨tb_1 (List.mem_of_getElem? (i := 188) rfl), List.forall_mem_cons.mpr ⟨tb_1 (List.mem_of_getElem? (i := 190) rfl), List.forall_mem_cons.mpr ⟨tb_1 (List.mem_of_getElem? (i := 192) rfl), List.forall_mem_cons.mpr ⟨tb_1 (List.mem_of_getElem? (i := 194) rfl), List.forall_mem_cons.mpr ⟨tb_1 (List.mem_of_getElem? (i := 196) rfl), List.forall_mem_cons.mpr ⟨tb_1 (List.mem_of_getElem? (i := 198) rfl), List.forall_mem_cons.mpr ⟨tb_1 (List.mem_of_getElem? (i := 200) rfl), List.forall_mem_cons.mpr ⟨tb_1 (List.mem_of_getElem? (i := 202) rfl), List.forall_mem_cons.mpr ⟨tb_1 (List.mem_of_getElem? (i := 204) rfl), fun _ h => absurd h List.not_mem_nil⟩⟩⟩⟩⟩⟩⟩⟩⟩⟩
set_option maxRecDepth 20000 in
theorem tl_X6 : ∀ w ∈ wsX60, w ∈ lw_tbl := show ∀ w ∈ ([u_lay RX6 TX6 0, u_lay RX6 TX6 1, u_lay RX6 TX6 2] : List Cond), w ∈ lw_tbl from List.forall_mem_cons.mpr ⟨tb_1 (List.mem_of_getElem? (i := 155) rfl), List.forall_mem_cons.mpr ⟨tb_1 (List.mem_of_getElem? (i := 157) rfl), List.forall_mem_cons.mpr ⟨tb_1 (List.mem_of_getElem? (i := 159) rfl), fun _ h => absurd h List.not_mem_nil⟩⟩⟩
set_option maxRecDepth 20000 in
theorem tl_X7 : ∀ w ∈ wsX70, w ∈ lw_tbl := show ∀ w ∈ ([u_lay RX7 TX7 0, u_lay RX7 TX7 1, u_lay RX7 TX7 2, u_lay RX7 TX7 3, u_lay RX7 TX7 4, u_lay RX7 TX7 5, u_lay RX7 TX7 6] : List Cond), w ∈ lw_tbl from List.forall_mem_cons.mpr ⟨tb_1 (List.mem_of_getElem? (i := 69) rfl), List.forall_mem_cons.mpr ⟨tb_1 (List.mem_of_getElem? (i := 71) rfl), List.forall_mem_cons.mpr ⟨tb_1 (List.mem_of_getElem? (i := 73) rfl), List.forall_mem_cons.mpr ⟨tb_1 (List.mem_of_getElem? (i := 75) rfl), List.forall_mem_cons.mpr ⟨tb_1 (List.mem_of_getElem? (i := 77) rfl), List.forall_mem_cons.mpr ⟨tb_1 (List.mem_of_getElem? (i := 79) rfl), List.forall_mem_cons.mpr ⟨tb_1 (List.mem_of_getElem? (i := 81) rfl), fun _ h => absurd h List.not_mem_nil⟩⟩⟩⟩⟩⟩⟩
set_option maxRecDepth 20000 in
theorem tl_X8 : ∀ w ∈ wsX80, w ∈ lw_tbl := show ∀ w ∈ ([u_lay RX8 TX8 0, u_lay RX8 TX8 1, u_lay RX8 TX8 2, u_lay RX8 TX8 3, u_lay RX8 TX8 4, u_lay RX8 TX8 5, u_lay RX8 TX8 6, u_lay RX8 TX8 7, u_lay RX8 TX8 8] : List Cond), w ∈ lw_tbl from List.forall_mem_cons.mpr ⟨tb_2 (List.mem_of_getElem? (i := 14) rfl), List.forall_mem_cons.mpr ⟨tb_2 (List.mem_of_getElem? (i := 16) rfl), List.forall_mem_cons.mpr ⟨tb_2 (List.mem_of_getElem? (i := 18) rfl), List.forall_mem_cons.mpr ⟨tb_2 (List.mem_of_getElem? (i := 20) rfl), List.forall_mem_cons.mpr ⟨tb_2 (List.mem_of_getElem? (i := 22) rfl), List.forall_mem_cons.mpr ⟨tb_2 (List.mem_of_getElem? (i := 24) rfl), List.forall_mem_cons.mpr ⟨tb_2 (List.mem_of_getElem? (i := 26) rfl), List.forall_mem_cons.mpr ⟨tb_2 (List.mem_of_getElem? (i := 28) rfl), List.forall_mem_cons.mpr ⟨tb_2 (List.mem_of_getElem? (i := 30) rfl), fun _ h => absurd h List.not_mem_nil⟩⟩⟩⟩⟩⟩⟩⟩⟩
set_option maxRecDepth 20000 in
theorem tl_X9 : ∀ w ∈ wsX90, w ∈ lw_tbl := show ∀ w ∈ ([u_lay RX9 TX9 0, u_lay RX9 TX9 1, u_lay RX9 TX9 2, u_lay RX9 TX9 3, u_lay RX9 TX9 4, u_lay RX9 TX9 5, u_lay RX9 TX9 6, u_lay RX9 TX9 7, u_lay RX9 TX9 8, u_lay RX9 TX9 9] : List Cond), w ∈ lw_tbl from List.forall_mem_cons.mpr ⟨tb_2 (List.mem_of_getElem? (i := 86) rfl), List.forall_mem_cons.mpr ⟨tb_2 (List.mem_of_getElem? (i := 88) rfl), List.forall_mem_cons.mpr ⟨tb_2 (List.mem_of_getElem? (i := 90) rfl), List.forall_mem_cons.mpr ⟨tb_2 (List.mem_of_getElem? (i := 92) rfl), List.forall_mem_cons.mpr ⟨tb_2 (List.mem_of_getElem? (i := 94) rfl), List.forall_mem_cons.mpr ⟨tb_2 (List.mem_of_getElem? (i := 96) rfl), List.forall_mem_cons.mpr ⟨tb_2 (List.mem_of_getElem? (i := 98) rfl), List.forall_mem_cons.mpr ⟨tb_2 (List.mem_of_getElem? (i := 100) rfl), List.forall_mem_cons.mpr ⟨tb_2 (List.mem_of_getElem? (i := 102) rfl), List.forall_mem_cons.mpr ⟨tb_2 (List.mem_of_getElem? (i := 104) rfl), fun _ h => absurd h List.not_mem_nil⟩⟩⟩⟩⟩⟩⟩⟩⟩⟩
set_option maxRecDepth 20000 in
theorem tl_X10 : ∀ w ∈ wsX100, w ∈ lw_tbl := show ∀ w ∈ ([u_lay RX10 TX10 0, u_lay RX10 TX10 1, u_lay RX10 TX10 2, u_lay RX10 TX10 3, u_lay RX10 TX10 4, u_lay RX10 TX10 5, u_lay RX10 TX10 6, u_lay RX10 TX10 7, u_lay RX10 TX10 8, u_lay RX10 TX10 9, u_lay RX10 TX10 10, u_lay RX10 TX10 11, u_lay RX10 TX10 12, u_lay RX10 TX10 13, u_lay RX10 TX10 14, u_lay RX10 TX10 15, u_lay RX10 TX10 16, u_lay RX10 TX10 17, u_lay RX10 TX10 18, u_lay RX10 TX10 19, u_lay RX10 TX10 20, u_lay RX10 TX10 21, u_lay RX10 TX10 22, u_lay RX10 TX10 23, u_lay RX10 TX10 24, u_lay RX10 TX10 25, u_lay RX10 TX10 26, u_lay RX10 TX10 27, u_lay RX10 TX10 28, u_lay RX10 TX10 29, u_lay RX10 TX10 30, u_lay RX10 TX10 31, u_lay RX10 TX10 32, u_lay RX10 TX10 33, u_lay RX10 TX10 34, u_lay RX10 TX10 35] : List Cond), w ∈ lw_tbl from List.forall_mem_cons.mpr ⟨tb_5 (List.mem_of_getElem? (i := 29) rfl), List.forall_mem_cons.mpr ⟨tb_5 (List.mem_of_getElem? (i := 31) rfl), List.forall_mem_cons.mpr ⟨tb_5 (List.mem_of_getElem? (i := 33) rfl), List.forall_mem_cons.mpr ⟨tb_5 (List.mem_of_getElem? (i := 35) rfl), List.forall_mem_cons.mpr ⟨tb_5 (List.mem_of_getElem? (i := 37) rfl), List.forall_mem_cons.mpr ⟨tb_5 (List.mem_of_getElem? (i := 39) rfl), List.forall_mem_cons.mpr ⟨tb_5 (List.mem_of_getElem? (i := 41) rfl), List.forall_mem_cons.mpr ⟨tb_5 (List.mem_of_getElem? (i := 43) rfl), List.forall_mem_cons.mpr ⟨tb_5 (List.mem_of_getElem? (i := 45) rfl), List.forall_mem_cons.mpr ⟨tb_5 (List.mem_of_getElem? (i := 47) rfl), List.forall_mem_cons.mpr ⟨tb_5 (List.mem_of_getElem? (i := 49) rfl), List.forall_mem_cons.mpr ⟨tb_5 (List.mem_of_getElem? (i := 51) rfl), List.forall_mem_cons.mpr ⟨tb_5 (List.mem_of_getElem? (i := 53) rfl), List.forall_mem_cons.mpr ⟨tb_5 (List.mem_of_getElem? (i := 55) rfl), List.forall_mem_cons.mpr ⟨tb_5 (List.mem_of_getElem? (i := 57) rfl), List.forall_mem_cons.mpr ⟨tb_5 (List.mem_of_getElem? (i := 59) rfl), List.forall_mem_cons.mpr ⟨tb_5 (List.mem_of_getElem? (i := 61) rfl), List.forall_mem_cons.mpr ⟨tb_5 (List.mem_of_getElem? (i := 63) rfl), List.forall_mem_cons.mpr ⟨tb_5 (List.mem_of_getElem? (i := 65) rfl), List.forall_mem_cons.mpr ⟨tb_5 (List.mem_of_getElem? (i := 67) rfl), List.forall_mem_cons.mpr ⟨tb_5 (List.mem_of_getElem? (i := 69) rfl), List.forall_mem_cons.mpr ⟨tb_5 (List.mem_of_getElem? (i := 71) rfl), List.forall_mem_cons.mpr ⟨tb_5 (List.mem_of_getElem? (i := 73) rfl), List.forall_mem_cons.mpr ⟨tb_5 (List.mem_of_getElem? (i := 75) rfl), List.forall_mem_cons.mpr ⟨tb_5 (List.mem_of_getElem? (i := 77) rfl), List.forall_mem_cons.mpr ⟨tb_5 (List.mem_of_getElem? (i := 79) rfl), List.forall_mem_cons.mpr ⟨tb_5 (List.mem_of_getElem? (i := 81) rfl), List.forall_mem_cons.mpr ⟨tb_5 (List.mem_of_getElem? (i := 83) rfl), List.forall_mem_cons.mpr ⟨tb_5 (List.mem_of_getElem? (i := 85) rfl), List.forall_mem_cons.mpr ⟨tb_5 (List.mem_of_getElem? (i := 87) rfl), List.forall_mem_cons.mpr ⟨tb_5 (List.mem_of_getElem? (i := 89) rfl), List.forall_mem_cons.mpr ⟨tb_5 (List.mem_of_getElem? (i := 91) rfl), List.forall_mem_cons.mpr ⟨tb_5 (List.mem_of_getElem? (i := 93) rfl), List.forall_mem_cons.mpr ⟨tb_5 (List.mem_of_getElem? (i := 95) rfl), List.forall_mem_cons.mpr ⟨tb_5 (List.mem_of_getElem? (i := 97) rfl), List.forall_mem_cons.mpr ⟨tb_5 (List.mem_of_getElem? (i := 99) rfl), fun _ h => absurd h List.not_mem_nil⟩⟩⟩⟩⟩⟩⟩⟩⟩⟩⟩⟩⟩⟩⟩⟩⟩⟩⟩⟩⟩⟩⟩⟩⟩⟩⟩⟩⟩⟩⟩⟩⟩⟩⟩⟩
theorem wAll_in : ∀ w ∈ wAll, w ∈ lw_tbl := List.forall_mem_append.mpr ⟨rl_1, List.forall_mem_append.mpr ⟨rl_2, List.forall_mem_append.mpr ⟨rl_3, List.forall_mem_append.mpr ⟨rl_4, List.forall_mem_append.mpr ⟨rl_5, List.forall_mem_append.mpr ⟨rl_6, List.forall_mem_append.mpr ⟨rl_7, List.forall_mem_append.mpr ⟨rl_8, List.forall_mem_append.mpr ⟨rl_9, List.forall_mem_append.mpr ⟨rl_10, List.forall_mem_append.mpr ⟨rl_11, List.forall_mem_append.mpr ⟨rl_12, List.forall_mem_append.mpr ⟨rl_13, List.forall_mem_append.mpr ⟨rl_14, List.forall_mem_append.mpr ⟨rl_15, List.forall_mem_append.mpr ⟨rl_16, List.forall_mem_append.mpr ⟨rl_17, List.forall_mem_append.mpr ⟨rl_18, List.forall_mem_append.mpr ⟨rl_19, List.forall_mem_append.mpr ⟨rl_20, List.forall_mem_append.mpr ⟨rl_21, List.forall_mem_append.mpr ⟨rl_22, List.forall_mem_append.mpr ⟨rl_23, List.forall_mem_append.mpr ⟨rl_24, List.forall_mem_append.mpr ⟨rl_25, List.forall_mem_append.mpr ⟨rl_26, List.forall_mem_append.mpr ⟨rl_27, List.forall_mem_append.mpr ⟨rl_28, List.forall_mem_append.mpr ⟨rl_29, List.forall_mem_append.mpr ⟨rl_30, List.forall_mem_append.mpr ⟨rl_31, List.forall_mem_append.mpr ⟨rl_32, List.forall_mem_append.mpr ⟨rl_33, List.forall_mem_append.mpr ⟨rl_34, List.forall_mem_append.mpr ⟨rl_35, List.forall_mem_append.mpr ⟨rl_36, List.forall_mem_append.mpr ⟨rl_37, List.forall_mem_append.mpr ⟨rl_38, List.forall_mem_append.mpr ⟨rl_39, List.forall_mem_append.mpr ⟨rl_40, List.forall_mem_append.mpr ⟨rl_41, List.forall_mem_append.mpr ⟨rl_42, List.forall_mem_append.mpr ⟨rl_43, List.forall_mem_append.mpr ⟨rl_44, List.forall_mem_append.mpr ⟨rl_45, List.forall_mem_append.mpr ⟨rl_46, List.forall_mem_append.mpr ⟨tl_X0, List.forall_mem_append.mpr ⟨tl_X1, List.forall_mem_append.mpr ⟨tl_X2, List.forall_mem_append.mpr ⟨tl_X3, List.forall_mem_append.mpr ⟨tl_X4, List.forall_mem_append.mpr ⟨tl_X5, List.forall_mem_append.mpr ⟨tl_X6, List.forall_mem_append.mpr ⟨tl_X7, List.forall_mem_append.mpr ⟨tl_X8, List.forall_mem_append.mpr ⟨tl_X9, tl_X10⟩⟩⟩⟩⟩⟩⟩⟩⟩⟩⟩⟩⟩⟩⟩⟩⟩⟩⟩⟩⟩⟩⟩⟩⟩⟩⟩⟩⟩⟩⟩⟩⟩⟩⟩⟩⟩⟩⟩⟩⟩⟩⟩⟩⟩⟩⟩⟩⟩⟩⟩⟩⟩⟩⟩⟩
set_option maxRecDepth 20000 in
theorem nwF_in : ∀ q ∈ nwF, Cond.fieldLinkNest q.1 q.2.1 q.2.2.1 q.2.2.2.1 q.2.2.2.2 "LampRound" ∈ lw_tbl := List.forall_mem_cons.mpr ⟨tb_1 (List.mem_of_getElem? (i := 68) rfl), List.forall_mem_cons.mpr ⟨tb_1 (List.mem_of_getElem? (i := 64) rfl), List.forall_mem_cons.mpr ⟨tb_1 (List.mem_of_getElem? (i := 58) rfl), List.forall_mem_cons.mpr ⟨tb_1 (List.mem_of_getElem? (i := 60) rfl), List.forall_mem_cons.mpr ⟨tb_1 (List.mem_of_getElem? (i := 62) rfl), List.forall_mem_cons.mpr ⟨tb_1 (List.mem_of_getElem? (i := 35) rfl), List.forall_mem_cons.mpr ⟨tb_1 (List.mem_of_getElem? (i := 37) rfl), List.forall_mem_cons.mpr ⟨tb_1 (List.mem_of_getElem? (i := 39) rfl), List.forall_mem_cons.mpr ⟨tb_1 (List.mem_of_getElem? (i := 118) rfl), List.forall_mem_cons.mpr ⟨tb_1 (List.mem_of_getElem? (i := 96) rfl), List.forall_mem_cons.mpr ⟨tb_1 (List.mem_of_getElem? (i := 102) rfl), List.forall_mem_cons.mpr ⟨tb_1 (List.mem_of_getElem? (i := 94) rfl), List.forall_mem_cons.mpr ⟨tb_1 (List.mem_of_getElem? (i := 100) rfl), List.forall_mem_cons.mpr ⟨tb_2 (List.mem_of_getElem? (i := 66) rfl), List.forall_mem_cons.mpr ⟨tb_1 (List.mem_of_getElem? (i := 154) rfl), List.forall_mem_cons.mpr ⟨tb_1 (List.mem_of_getElem? (i := 177) rfl), List.forall_mem_cons.mpr ⟨tb_1 (List.mem_of_getElem? (i := 183) rfl), List.forall_mem_cons.mpr ⟨tb_1 (List.mem_of_getElem? (i := 185) rfl), List.forall_mem_cons.mpr ⟨tb_1 (List.mem_of_getElem? (i := 179) rfl), List.forall_mem_cons.mpr ⟨tb_1 (List.mem_of_getElem? (i := 181) rfl), List.forall_mem_cons.mpr ⟨tb_1 (List.mem_of_getElem? (i := 171) rfl), List.forall_mem_cons.mpr ⟨tb_1 (List.mem_of_getElem? (i := 173) rfl), List.forall_mem_cons.mpr ⟨tb_1 (List.mem_of_getElem? (i := 152) rfl), List.forall_mem_cons.mpr ⟨tb_2 (List.mem_of_getElem? (i := 11) rfl), List.forall_mem_cons.mpr ⟨tb_2 (List.mem_of_getElem? (i := 7) rfl), List.forall_mem_cons.mpr ⟨tb_2 (List.mem_of_getElem? (i := 57) rfl), List.forall_mem_cons.mpr ⟨tb_2 (List.mem_of_getElem? (i := 60) rfl), List.forall_mem_cons.mpr ⟨tb_2 (List.mem_of_getElem? (i := 63) rfl), List.forall_mem_cons.mpr ⟨tb_1 (List.mem_of_getElem? (i := 120) rfl), List.forall_mem_cons.mpr ⟨tb_2 (List.mem_of_getElem? (i := 65) rfl), List.forall_mem_cons.mpr ⟨tb_1 (List.mem_of_getElem? (i := 223) rfl), List.forall_mem_cons.mpr ⟨tb_2 (List.mem_of_getElem? (i := 56) rfl), List.forall_mem_cons.mpr ⟨tb_2 (List.mem_of_getElem? (i := 59) rfl), List.forall_mem_cons.mpr ⟨tb_2 (List.mem_of_getElem? (i := 62) rfl), List.forall_mem_cons.mpr ⟨tb_1 (List.mem_of_getElem? (i := 105) rfl), List.forall_mem_cons.mpr ⟨tb_1 (List.mem_of_getElem? (i := 217) rfl), List.forall_mem_cons.mpr ⟨tb_1 (List.mem_of_getElem? (i := 214) rfl), List.forall_mem_cons.mpr ⟨tb_1 (List.mem_of_getElem? (i := 112) rfl), List.forall_mem_cons.mpr ⟨tb_1 (List.mem_of_getElem? (i := 117) rfl), List.forall_mem_cons.mpr ⟨tb_1 (List.mem_of_getElem? (i := 104) rfl), List.forall_mem_cons.mpr ⟨tb_1 (List.mem_of_getElem? (i := 116) rfl), List.forall_mem_cons.mpr ⟨tb_1 (List.mem_of_getElem? (i := 109) rfl), List.forall_mem_cons.mpr ⟨tb_1 (List.mem_of_getElem? (i := 110) rfl), List.forall_mem_cons.mpr ⟨tb_1 (List.mem_of_getElem? (i := 106) rfl), List.forall_mem_cons.mpr ⟨tb_1 (List.mem_of_getElem? (i := 115) rfl), List.forall_mem_cons.mpr ⟨tb_1 (List.mem_of_getElem? (i := 108) rfl), List.forall_mem_cons.mpr ⟨tb_1 (List.mem_of_getElem? (i := 99) rfl), List.forall_mem_cons.mpr ⟨tb_1 (List.mem_of_getElem? (i := 215) rfl), List.forall_mem_cons.mpr ⟨tb_1 (List.mem_of_getElem? (i := 218) rfl), List.forall_mem_cons.mpr ⟨tb_1 (List.mem_of_getElem? (i := 113) rfl), fun _ h => absurd h List.not_mem_nil⟩⟩⟩⟩⟩⟩⟩⟩⟩⟩⟩⟩⟩⟩⟩⟩⟩⟩⟩⟩⟩⟩⟩⟩⟩⟩⟩⟩⟩⟩⟩⟩⟩⟩⟩⟩⟩⟩⟩⟩⟩⟩⟩⟩⟩⟩⟩⟩⟩⟩
set_option maxRecDepth 20000 in
theorem nwM_in : ∀ q ∈ nwM, Cond.methodLinkNest q.1 q.2.1 q.2.2 "LampRound" ∈ lw_tbl := List.forall_mem_cons.mpr ⟨tb_1 (List.mem_of_getElem? (i := 51) rfl), List.forall_mem_cons.mpr ⟨tb_1 (List.mem_of_getElem? (i := 209) rfl), List.forall_mem_cons.mpr ⟨tb_2 (List.mem_of_getElem? (i := 51) rfl), List.forall_mem_cons.mpr ⟨tb_4 (List.mem_of_getElem? (i := 139) rfl), List.forall_mem_cons.mpr ⟨tb_4 (List.mem_of_getElem? (i := 168) rfl), List.forall_mem_cons.mpr ⟨tb_4 (List.mem_of_getElem? (i := 173) rfl), List.forall_mem_cons.mpr ⟨tb_4 (List.mem_of_getElem? (i := 174) rfl), List.forall_mem_cons.mpr ⟨tb_4 (List.mem_of_getElem? (i := 115) rfl), List.forall_mem_cons.mpr ⟨tb_4 (List.mem_of_getElem? (i := 158) rfl), List.forall_mem_cons.mpr ⟨tb_4 (List.mem_of_getElem? (i := 159) rfl), List.forall_mem_cons.mpr ⟨tb_3 (List.mem_of_getElem? (i := 24) rfl), List.forall_mem_cons.mpr ⟨tb_3 (List.mem_of_getElem? (i := 118) rfl), List.forall_mem_cons.mpr ⟨tb_2 (List.mem_of_getElem? (i := 202) rfl), List.forall_mem_cons.mpr ⟨tb_4 (List.mem_of_getElem? (i := 48) rfl), List.forall_mem_cons.mpr ⟨tb_4 (List.mem_of_getElem? (i := 51) rfl), List.forall_mem_cons.mpr ⟨tb_4 (List.mem_of_getElem? (i := 23) rfl), List.forall_mem_cons.mpr ⟨tb_4 (List.mem_of_getElem? (i := 54) rfl), fun _ h => absurd h List.not_mem_nil⟩⟩⟩⟩⟩⟩⟩⟩⟩⟩⟩⟩⟩⟩⟩⟩⟩
theorem dm_L_law_0 : (([(0, .new 7, 3), (3, .dup, 1), (4, .invokespecial 9, 3), (7, .astore_n 1, 1), (8, .new 10, 3), (11, .dup, 1), (12, .invokespecial 12, 3), (15, .astore_n 2, 1), (16, .iconst 0, 1), (17, .istore_n 3, 1), (18, .iload_n 3, 1), (19, .aload_n 0, 1), (20, .arraylength, 1), (21, .iconst 5, 1), (22, .isub, 1), (23, .if_icmp .gt 1276, 3), (26, .aload_n 0, 1), (27, .iload_n 3, 1), (28, .iaload, 1), (29, .bipush 63, 2), (31, .iand, 1), (32, .tableswitch 1261 0 34 #[156, 199, 248, 281, 324, 397, 431, 454, 507, 540, 583, 626, 675, 698, 731, 754, 767, 780, 839, 862, 875, 898, 911, 924, 957, 970, 1003, 1026, 1040, 1063, 1086, 1129, 1182, 1205, 1238], 156), (188, .aload_n 1, 1), (189, .aload_n 0, 1), (190, .iload_n 3, 1), (191, .iconst 1, 1), (192, .iadd, 1), (193, .iaload, 1), (194, .aload_n 0, 1), (195, .iload_n 3, 1), (196, .iconst 2, 1), (197, .iadd, 1), (198, .iaload, 1), (199, .aload_n 0, 1), (200, .iload_n 3, 1), (201, .iconst 3, 1), (202, .iadd, 1), (203, .iaload, 1), (204, .invokevirtual 13, 3), (207, .aload_n 2, 1), (208, .aload_n 0, 1), (209, .iload_n 3, 1), (210, .iconst 1, 1), (211, .iadd, 1), (212, .iaload, 1), (213, .aload_n 0, 1), (214, .iload_n 3, 1), (215, .iconst 2, 1), (216, .iadd, 1), (217, .iaload, 1), (218, .aload_n 0, 1), (219, .iload_n 3, 1), (220, .iconst 3, 1), (221, .iadd, 1), (222, .iaload, 1), (223, .invokevirtual 17, 3), (226, .if_icmp .eq 1067, 3), (229, .iconst 0, 1), (230, .ireturn, 1), (231, .aload_n 1, 1)] : List (Nat × Instr × Nat)).all fun q => decide (decode cL_law q.1 = .ok (q.2.1, q.2.2))) = true := by decide +kernel
theorem dL_law_0 : decode cL_law 0 = .ok (.new 7, 3) := dd_get dm_L_law_0 0 rfl
theorem dL_law_3 : decode cL_law 3 = .ok (.dup, 1) := dd_get dm_L_law_0 1 rfl
theorem dL_law_4 : decode cL_law 4 = .ok (.invokespecial 9, 3) := dd_get dm_L_law_0 2 rfl
theorem dL_law_7 : decode cL_law 7 = .ok (.astore_n 1, 1) := dd_get dm_L_law_0 3 rfl
theorem dL_law_8 : decode cL_law 8 = .ok (.new 10, 3) := dd_get dm_L_law_0 4 rfl
theorem dL_law_11 : decode cL_law 11 = .ok (.dup, 1) := dd_get dm_L_law_0 5 rfl
theorem dL_law_12 : decode cL_law 12 = .ok (.invokespecial 12, 3) := dd_get dm_L_law_0 6 rfl
theorem dL_law_15 : decode cL_law 15 = .ok (.astore_n 2, 1) := dd_get dm_L_law_0 7 rfl
theorem dL_law_16 : decode cL_law 16 = .ok (.iconst 0, 1) := dd_get dm_L_law_0 8 rfl
theorem dL_law_17 : decode cL_law 17 = .ok (.istore_n 3, 1) := dd_get dm_L_law_0 9 rfl
theorem dL_law_18 : decode cL_law 18 = .ok (.iload_n 3, 1) := dd_get dm_L_law_0 10 rfl
theorem dL_law_19 : decode cL_law 19 = .ok (.aload_n 0, 1) := dd_get dm_L_law_0 11 rfl
theorem dL_law_20 : decode cL_law 20 = .ok (.arraylength, 1) := dd_get dm_L_law_0 12 rfl
theorem dL_law_21 : decode cL_law 21 = .ok (.iconst 5, 1) := dd_get dm_L_law_0 13 rfl
theorem dL_law_22 : decode cL_law 22 = .ok (.isub, 1) := dd_get dm_L_law_0 14 rfl
theorem dL_law_23 : decode cL_law 23 = .ok (.if_icmp .gt 1276, 3) := dd_get dm_L_law_0 15 rfl
theorem dL_law_26 : decode cL_law 26 = .ok (.aload_n 0, 1) := dd_get dm_L_law_0 16 rfl
theorem dL_law_27 : decode cL_law 27 = .ok (.iload_n 3, 1) := dd_get dm_L_law_0 17 rfl
theorem dL_law_28 : decode cL_law 28 = .ok (.iaload, 1) := dd_get dm_L_law_0 18 rfl
theorem dL_law_29 : decode cL_law 29 = .ok (.bipush 63, 2) := dd_get dm_L_law_0 19 rfl
theorem dL_law_31 : decode cL_law 31 = .ok (.iand, 1) := dd_get dm_L_law_0 20 rfl
theorem dL_law_32 : decode cL_law 32 = .ok (.tableswitch 1261 0 34 #[156, 199, 248, 281, 324, 397, 431, 454, 507, 540, 583, 626, 675, 698, 731, 754, 767, 780, 839, 862, 875, 898, 911, 924, 957, 970, 1003, 1026, 1040, 1063, 1086, 1129, 1182, 1205, 1238], 156) := dd_get dm_L_law_0 21 rfl
theorem dL_law_188 : decode cL_law 188 = .ok (.aload_n 1, 1) := dd_get dm_L_law_0 22 rfl
theorem dL_law_189 : decode cL_law 189 = .ok (.aload_n 0, 1) := dd_get dm_L_law_0 23 rfl
theorem dL_law_190 : decode cL_law 190 = .ok (.iload_n 3, 1) := dd_get dm_L_law_0 24 rfl
theorem dL_law_191 : decode cL_law 191 = .ok (.iconst 1, 1) := dd_get dm_L_law_0 25 rfl
theorem dL_law_192 : decode cL_law 192 = .ok (.iadd, 1) := dd_get dm_L_law_0 26 rfl
theorem dL_law_193 : decode cL_law 193 = .ok (.iaload, 1) := dd_get dm_L_law_0 27 rfl
theorem dL_law_194 : decode cL_law 194 = .ok (.aload_n 0, 1) := dd_get dm_L_law_0 28 rfl
theorem dL_law_195 : decode cL_law 195 = .ok (.iload_n 3, 1) := dd_get dm_L_law_0 29 rfl
theorem dL_law_196 : decode cL_law 196 = .ok (.iconst 2, 1) := dd_get dm_L_law_0 30 rfl
theorem dL_law_197 : decode cL_law 197 = .ok (.iadd, 1) := dd_get dm_L_law_0 31 rfl
theorem dL_law_198 : decode cL_law 198 = .ok (.iaload, 1) := dd_get dm_L_law_0 32 rfl
theorem dL_law_199 : decode cL_law 199 = .ok (.aload_n 0, 1) := dd_get dm_L_law_0 33 rfl
theorem dL_law_200 : decode cL_law 200 = .ok (.iload_n 3, 1) := dd_get dm_L_law_0 34 rfl
theorem dL_law_201 : decode cL_law 201 = .ok (.iconst 3, 1) := dd_get dm_L_law_0 35 rfl
theorem dL_law_202 : decode cL_law 202 = .ok (.iadd, 1) := dd_get dm_L_law_0 36 rfl
theorem dL_law_203 : decode cL_law 203 = .ok (.iaload, 1) := dd_get dm_L_law_0 37 rfl
theorem dL_law_204 : decode cL_law 204 = .ok (.invokevirtual 13, 3) := dd_get dm_L_law_0 38 rfl
theorem dL_law_207 : decode cL_law 207 = .ok (.aload_n 2, 1) := dd_get dm_L_law_0 39 rfl
theorem dL_law_208 : decode cL_law 208 = .ok (.aload_n 0, 1) := dd_get dm_L_law_0 40 rfl
theorem dL_law_209 : decode cL_law 209 = .ok (.iload_n 3, 1) := dd_get dm_L_law_0 41 rfl
theorem dL_law_210 : decode cL_law 210 = .ok (.iconst 1, 1) := dd_get dm_L_law_0 42 rfl
theorem dL_law_211 : decode cL_law 211 = .ok (.iadd, 1) := dd_get dm_L_law_0 43 rfl
theorem dL_law_212 : decode cL_law 212 = .ok (.iaload, 1) := dd_get dm_L_law_0 44 rfl
theorem dL_law_213 : decode cL_law 213 = .ok (.aload_n 0, 1) := dd_get dm_L_law_0 45 rfl
theorem dL_law_214 : decode cL_law 214 = .ok (.iload_n 3, 1) := dd_get dm_L_law_0 46 rfl
theorem dL_law_215 : decode cL_law 215 = .ok (.iconst 2, 1) := dd_get dm_L_law_0 47 rfl
theorem dL_law_216 : decode cL_law 216 = .ok (.iadd, 1) := dd_get dm_L_law_0 48 rfl
theorem dL_law_217 : decode cL_law 217 = .ok (.iaload, 1) := dd_get dm_L_law_0 49 rfl
theorem dL_law_218 : decode cL_law 218 = .ok (.aload_n 0, 1) := dd_get dm_L_law_0 50 rfl
theorem dL_law_219 : decode cL_law 219 = .ok (.iload_n 3, 1) := dd_get dm_L_law_0 51 rfl
theorem dL_law_220 : decode cL_law 220 = .ok (.iconst 3, 1) := dd_get dm_L_law_0 52 rfl
theorem dL_law_221 : decode cL_law 221 = .ok (.iadd, 1) := dd_get dm_L_law_0 53 rfl
theorem dL_law_222 : decode cL_law 222 = .ok (.iaload, 1) := dd_get dm_L_law_0 54 rfl
theorem dL_law_223 : decode cL_law 223 = .ok (.invokevirtual 17, 3) := dd_get dm_L_law_0 55 rfl
theorem dL_law_226 : decode cL_law 226 = .ok (.if_icmp .eq 1067, 3) := dd_get dm_L_law_0 56 rfl
theorem dL_law_229 : decode cL_law 229 = .ok (.iconst 0, 1) := dd_get dm_L_law_0 57 rfl
theorem dL_law_230 : decode cL_law 230 = .ok (.ireturn, 1) := dd_get dm_L_law_0 58 rfl
theorem dL_law_231 : decode cL_law 231 = .ok (.aload_n 1, 1) := dd_get dm_L_law_0 59 rfl
theorem dm_L_law_1 : (([(232, .aload_n 0, 1), (233, .iload_n 3, 1), (234, .iconst 1, 1), (235, .iadd, 1), (236, .iaload, 1), (237, .aload_n 0, 1), (238, .iload_n 3, 1), (239, .iconst 2, 1), (240, .iadd, 1), (241, .iaload, 1), (242, .ifCond .eq 7, 3), (245, .iconst 1, 1), (246, .goto 4, 3), (249, .iconst 0, 1), (250, .invokevirtual 18, 3), (253, .aload_n 2, 1), (254, .aload_n 0, 1), (255, .iload_n 3, 1), (256, .iconst 1, 1), (257, .iadd, 1), (258, .iaload, 1), (259, .aload_n 0, 1), (260, .iload_n 3, 1), (261, .iconst 2, 1), (262, .iadd, 1), (263, .iaload, 1), (264, .ifCond .eq 7, 3), (267, .iconst 1, 1), (268, .goto 4, 3), (271, .iconst 0, 1), (272, .invokevirtual 22, 3), (275, .if_icmp .eq 1018, 3), (278, .iconst 0, 1), (279, .ireturn, 1), (280, .aload_n 1, 1), (281, .aload_n 0, 1), (282, .iload_n 3, 1), (283, .iconst 1, 1), (284, .iadd, 1), (285, .iaload, 1), (286, .aload_n 0, 1), (287, .iload_n 3, 1), (288, .iconst 2, 1), (289, .iadd, 1), (290, .iaload, 1), (291, .invokevirtual 23, 3), (294, .aload_n 2, 1), (295, .aload_n 0, 1), (296, .iload_n 3, 1), (297, .iconst 1, 1), (298, .iadd, 1), (299, .iaload, 1), (300, .aload_n 0, 1), (301, .iload_n 3, 1), (302, .iconst 2, 1), (303, .iadd, 1), (304, .iaload, 1), (305, .invokevirtual 27, 3), (308, .if_icmp .eq 985, 3), (311, .iconst 0, 1)] : List (Nat × Instr × Nat)).all fun q => decide (decode cL_law q.1 = .ok (q.2.1, q.2.2))) = true := by decide +kernel
theorem dL_law_232 : decode cL_law 232 = .ok (.aload_n 0, 1) := dd_get dm_L_law_1 0 rfl
theorem dL_law_233 : decode cL_law 233 = .ok (.iload_n 3, 1) := dd_get dm_L_law_1 1 rfl
theorem dL_law_234 : decode cL_law 234 = .ok (.iconst 1, 1) := dd_get dm_L_law_1 2 rfl
theorem dL_law_235 : decode cL_law 235 = .ok (.iadd, 1) := dd_get dm_L_law_1 3 rfl
theorem dL_law_236 : decode cL_law 236 = .ok (.iaload, 1) := dd_get dm_L_law_1 4 rfl
theorem dL_law_237 : decode cL_law 237 = .ok (.aload_n 0, 1) := dd_get dm_L_law_1 5 rfl
theorem dL_law_238 : decode cL_law 238 = .ok (.iload_n 3, 1) := dd_get dm_L_law_1 6 rfl
theorem dL_law_239 : decode cL_law 239 = .ok (.iconst 2, 1) := dd_get dm_L_law_1 7 rfl
theorem dL_law_240 : decode cL_law 240 = .ok (.iadd, 1) := dd_get dm_L_law_1 8 rfl
theorem dL_law_241 : decode cL_law 241 = .ok (.iaload, 1) := dd_get dm_L_law_1 9 rfl
theorem dL_law_242 : decode cL_law 242 = .ok (.ifCond .eq 7, 3) := dd_get dm_L_law_1 10 rfl
theorem dL_law_245 : decode cL_law 245 = .ok (.iconst 1, 1) := dd_get dm_L_law_1 11 rfl
theorem dL_law_246 : decode cL_law 246 = .ok (.goto 4, 3) := dd_get dm_L_law_1 12 rfl
theorem dL_law_249 : decode cL_law 249 = .ok (.iconst 0, 1) := dd_get dm_L_law_1 13 rfl
theorem dL_law_250 : decode cL_law 250 = .ok (.invokevirtual 18, 3) := dd_get dm_L_law_1 14 rfl
theorem dL_law_253 : decode cL_law 253 = .ok (.aload_n 2, 1) := dd_get dm_L_law_1 15 rfl
theorem dL_law_254 : decode cL_law 254 = .ok (.aload_n 0, 1) := dd_get dm_L_law_1 16 rfl
theorem dL_law_255 : decode cL_law 255 = .ok (.iload_n 3, 1) := dd_get dm_L_law_1 17 rfl
theorem dL_law_256 : decode cL_law 256 = .ok (.iconst 1, 1) := dd_get dm_L_law_1 18 rfl
theorem dL_law_257 : decode cL_law 257 = .ok (.iadd, 1) := dd_get dm_L_law_1 19 rfl
theorem dL_law_258 : decode cL_law 258 = .ok (.iaload, 1) := dd_get dm_L_law_1 20 rfl
theorem dL_law_259 : decode cL_law 259 = .ok (.aload_n 0, 1) := dd_get dm_L_law_1 21 rfl
theorem dL_law_260 : decode cL_law 260 = .ok (.iload_n 3, 1) := dd_get dm_L_law_1 22 rfl
theorem dL_law_261 : decode cL_law 261 = .ok (.iconst 2, 1) := dd_get dm_L_law_1 23 rfl
theorem dL_law_262 : decode cL_law 262 = .ok (.iadd, 1) := dd_get dm_L_law_1 24 rfl
theorem dL_law_263 : decode cL_law 263 = .ok (.iaload, 1) := dd_get dm_L_law_1 25 rfl
theorem dL_law_264 : decode cL_law 264 = .ok (.ifCond .eq 7, 3) := dd_get dm_L_law_1 26 rfl
theorem dL_law_267 : decode cL_law 267 = .ok (.iconst 1, 1) := dd_get dm_L_law_1 27 rfl
theorem dL_law_268 : decode cL_law 268 = .ok (.goto 4, 3) := dd_get dm_L_law_1 28 rfl
theorem dL_law_271 : decode cL_law 271 = .ok (.iconst 0, 1) := dd_get dm_L_law_1 29 rfl
theorem dL_law_272 : decode cL_law 272 = .ok (.invokevirtual 22, 3) := dd_get dm_L_law_1 30 rfl
theorem dL_law_275 : decode cL_law 275 = .ok (.if_icmp .eq 1018, 3) := dd_get dm_L_law_1 31 rfl
theorem dL_law_278 : decode cL_law 278 = .ok (.iconst 0, 1) := dd_get dm_L_law_1 32 rfl
theorem dL_law_279 : decode cL_law 279 = .ok (.ireturn, 1) := dd_get dm_L_law_1 33 rfl
theorem dL_law_280 : decode cL_law 280 = .ok (.aload_n 1, 1) := dd_get dm_L_law_1 34 rfl
theorem dL_law_281 : decode cL_law 281 = .ok (.aload_n 0, 1) := dd_get dm_L_law_1 35 rfl
theorem dL_law_282 : decode cL_law 282 = .ok (.iload_n 3, 1) := dd_get dm_L_law_1 36 rfl
theorem dL_law_283 : decode cL_law 283 = .ok (.iconst 1, 1) := dd_get dm_L_law_1 37 rfl
theorem dL_law_284 : decode cL_law 284 = .ok (.iadd, 1) := dd_get dm_L_law_1 38 rfl
theorem dL_law_285 : decode cL_law 285 = .ok (.iaload, 1) := dd_get dm_L_law_1 39 rfl
theorem dL_law_286 : decode cL_law 286 = .ok (.aload_n 0, 1) := dd_get dm_L_law_1 40 rfl
theorem dL_law_287 : decode cL_law 287 = .ok (.iload_n 3, 1) := dd_get dm_L_law_1 41 rfl
theorem dL_law_288 : decode cL_law 288 = .ok (.iconst 2, 1) := dd_get dm_L_law_1 42 rfl
theorem dL_law_289 : decode cL_law 289 = .ok (.iadd, 1) := dd_get dm_L_law_1 43 rfl
theorem dL_law_290 : decode cL_law 290 = .ok (.iaload, 1) := dd_get dm_L_law_1 44 rfl
theorem dL_law_291 : decode cL_law 291 = .ok (.invokevirtual 23, 3) := dd_get dm_L_law_1 45 rfl
theorem dL_law_294 : decode cL_law 294 = .ok (.aload_n 2, 1) := dd_get dm_L_law_1 46 rfl
theorem dL_law_295 : decode cL_law 295 = .ok (.aload_n 0, 1) := dd_get dm_L_law_1 47 rfl
theorem dL_law_296 : decode cL_law 296 = .ok (.iload_n 3, 1) := dd_get dm_L_law_1 48 rfl
theorem dL_law_297 : decode cL_law 297 = .ok (.iconst 1, 1) := dd_get dm_L_law_1 49 rfl
theorem dL_law_298 : decode cL_law 298 = .ok (.iadd, 1) := dd_get dm_L_law_1 50 rfl
theorem dL_law_299 : decode cL_law 299 = .ok (.iaload, 1) := dd_get dm_L_law_1 51 rfl
theorem dL_law_300 : decode cL_law 300 = .ok (.aload_n 0, 1) := dd_get dm_L_law_1 52 rfl
theorem dL_law_301 : decode cL_law 301 = .ok (.iload_n 3, 1) := dd_get dm_L_law_1 53 rfl
theorem dL_law_302 : decode cL_law 302 = .ok (.iconst 2, 1) := dd_get dm_L_law_1 54 rfl
theorem dL_law_303 : decode cL_law 303 = .ok (.iadd, 1) := dd_get dm_L_law_1 55 rfl
theorem dL_law_304 : decode cL_law 304 = .ok (.iaload, 1) := dd_get dm_L_law_1 56 rfl
theorem dL_law_305 : decode cL_law 305 = .ok (.invokevirtual 27, 3) := dd_get dm_L_law_1 57 rfl
theorem dL_law_308 : decode cL_law 308 = .ok (.if_icmp .eq 985, 3) := dd_get dm_L_law_1 58 rfl
theorem dL_law_311 : decode cL_law 311 = .ok (.iconst 0, 1) := dd_get dm_L_law_1 59 rfl
theorem dm_L_law_2 : (([(312, .ireturn, 1), (313, .aload_n 1, 1), (314, .aload_n 0, 1), (315, .iload_n 3, 1), (316, .iconst 1, 1), (317, .iadd, 1), (318, .iaload, 1), (319, .aload_n 0, 1), (320, .iload_n 3, 1), (321, .iconst 2, 1), (322, .iadd, 1), (323, .iaload, 1), (324, .aload_n 0, 1), (325, .iload_n 3, 1), (326, .iconst 3, 1), (327, .iadd, 1), (328, .iaload, 1), (329, .invokevirtual 28, 3), (332, .aload_n 2, 1), (333, .aload_n 0, 1), (334, .iload_n 3, 1), (335, .iconst 1, 1), (336, .iadd, 1), (337, .iaload, 1), (338, .aload_n 0, 1), (339, .iload_n 3, 1), (340, .iconst 2, 1), (341, .iadd, 1), (342, .iaload, 1), (343, .aload_n 0, 1), (344, .iload_n 3, 1), (345, .iconst 3, 1), (346, .iadd, 1), (347, .iaload, 1), (348, .invokevirtual 31, 3), (351, .if_icmp .eq 942, 3), (354, .iconst 0, 1), (355, .ireturn, 1), (356, .aload_n 1, 1), (357, .aload_n 0, 1), (358, .iload_n 3, 1), (359, .iconst 1, 1), (360, .iadd, 1), (361, .iaload, 1), (362, .aload_n 0, 1), (363, .iload_n 3, 1), (364, .iconst 2, 1), (365, .iadd, 1), (366, .iaload, 1), (367, .aload_n 0, 1), (368, .iload_n 3, 1), (369, .iconst 3, 1), (370, .iadd, 1), (371, .iaload, 1), (372, .i2l, 1), (373, .bipush 32, 2), (375, .lshl, 1), (376, .aload_n 0, 1), (377, .iload_n 3, 1), (378, .iconst 4, 1)] : List (Nat × Instr × Nat)).all fun q => decide (decode cL_law q.1 = .ok (q.2.1, q.2.2))) = true := by decide +kernel
theorem dL_law_312 : decode cL_law 312 = .ok (.ireturn, 1) := dd_get dm_L_law_2 0 rfl
theorem dL_law_313 : decode cL_law 313 = .ok (.aload_n 1, 1) := dd_get dm_L_law_2 1 rfl
theorem dL_law_314 : decode cL_law 314 = .ok (.aload_n 0, 1) := dd_get dm_L_law_2 2 rfl
theorem dL_law_315 : decode cL_law 315 = .ok (.iload_n 3, 1) := dd_get dm_L_law_2 3 rfl
theorem dL_law_316 : decode cL_law 316 = .ok (.iconst 1, 1) := dd_get dm_L_law_2 4 rfl
theorem dL_law_317 : decode cL_law 317 = .ok (.iadd, 1) := dd_get dm_L_law_2 5 rfl
theorem dL_law_318 : decode cL_law 318 = .ok (.iaload, 1) := dd_get dm_L_law_2 6 rfl
theorem dL_law_319 : decode cL_law 319 = .ok (.aload_n 0, 1) := dd_get dm_L_law_2 7 rfl
theorem dL_law_320 : decode cL_law 320 = .ok (.iload_n 3, 1) := dd_get dm_L_law_2 8 rfl
theorem dL_law_321 : decode cL_law 321 = .ok (.iconst 2, 1) := dd_get dm_L_law_2 9 rfl
theorem dL_law_322 : decode cL_law 322 = .ok (.iadd, 1) := dd_get dm_L_law_2 10 rfl
theorem dL_law_323 : decode cL_law 323 = .ok (.iaload, 1) := dd_get dm_L_law_2 11 rfl
theorem dL_law_324 : decode cL_law 324 = .ok (.aload_n 0, 1) := dd_get dm_L_law_2 12 rfl
theorem dL_law_325 : decode cL_law 325 = .ok (.iload_n 3, 1) := dd_get dm_L_law_2 13 rfl
theorem dL_law_326 : decode cL_law 326 = .ok (.iconst 3, 1) := dd_get dm_L_law_2 14 rfl
theorem dL_law_327 : decode cL_law 327 = .ok (.iadd, 1) := dd_get dm_L_law_2 15 rfl
theorem dL_law_328 : decode cL_law 328 = .ok (.iaload, 1) := dd_get dm_L_law_2 16 rfl
theorem dL_law_329 : decode cL_law 329 = .ok (.invokevirtual 28, 3) := dd_get dm_L_law_2 17 rfl
theorem dL_law_332 : decode cL_law 332 = .ok (.aload_n 2, 1) := dd_get dm_L_law_2 18 rfl
theorem dL_law_333 : decode cL_law 333 = .ok (.aload_n 0, 1) := dd_get dm_L_law_2 19 rfl
theorem dL_law_334 : decode cL_law 334 = .ok (.iload_n 3, 1) := dd_get dm_L_law_2 20 rfl
theorem dL_law_335 : decode cL_law 335 = .ok (.iconst 1, 1) := dd_get dm_L_law_2 21 rfl
theorem dL_law_336 : decode cL_law 336 = .ok (.iadd, 1) := dd_get dm_L_law_2 22 rfl
theorem dL_law_337 : decode cL_law 337 = .ok (.iaload, 1) := dd_get dm_L_law_2 23 rfl
theorem dL_law_338 : decode cL_law 338 = .ok (.aload_n 0, 1) := dd_get dm_L_law_2 24 rfl
theorem dL_law_339 : decode cL_law 339 = .ok (.iload_n 3, 1) := dd_get dm_L_law_2 25 rfl
theorem dL_law_340 : decode cL_law 340 = .ok (.iconst 2, 1) := dd_get dm_L_law_2 26 rfl
theorem dL_law_341 : decode cL_law 341 = .ok (.iadd, 1) := dd_get dm_L_law_2 27 rfl
theorem dL_law_342 : decode cL_law 342 = .ok (.iaload, 1) := dd_get dm_L_law_2 28 rfl
theorem dL_law_343 : decode cL_law 343 = .ok (.aload_n 0, 1) := dd_get dm_L_law_2 29 rfl
theorem dL_law_344 : decode cL_law 344 = .ok (.iload_n 3, 1) := dd_get dm_L_law_2 30 rfl
theorem dL_law_345 : decode cL_law 345 = .ok (.iconst 3, 1) := dd_get dm_L_law_2 31 rfl
theorem dL_law_346 : decode cL_law 346 = .ok (.iadd, 1) := dd_get dm_L_law_2 32 rfl
theorem dL_law_347 : decode cL_law 347 = .ok (.iaload, 1) := dd_get dm_L_law_2 33 rfl
theorem dL_law_348 : decode cL_law 348 = .ok (.invokevirtual 31, 3) := dd_get dm_L_law_2 34 rfl
theorem dL_law_351 : decode cL_law 351 = .ok (.if_icmp .eq 942, 3) := dd_get dm_L_law_2 35 rfl
theorem dL_law_354 : decode cL_law 354 = .ok (.iconst 0, 1) := dd_get dm_L_law_2 36 rfl
theorem dL_law_355 : decode cL_law 355 = .ok (.ireturn, 1) := dd_get dm_L_law_2 37 rfl
theorem dL_law_356 : decode cL_law 356 = .ok (.aload_n 1, 1) := dd_get dm_L_law_2 38 rfl
theorem dL_law_357 : decode cL_law 357 = .ok (.aload_n 0, 1) := dd_get dm_L_law_2 39 rfl
theorem dL_law_358 : decode cL_law 358 = .ok (.iload_n 3, 1) := dd_get dm_L_law_2 40 rfl
theorem dL_law_359 : decode cL_law 359 = .ok (.iconst 1, 1) := dd_get dm_L_law_2 41 rfl
theorem dL_law_360 : decode cL_law 360 = .ok (.iadd, 1) := dd_get dm_L_law_2 42 rfl
theorem dL_law_361 : decode cL_law 361 = .ok (.iaload, 1) := dd_get dm_L_law_2 43 rfl
theorem dL_law_362 : decode cL_law 362 = .ok (.aload_n 0, 1) := dd_get dm_L_law_2 44 rfl
theorem dL_law_363 : decode cL_law 363 = .ok (.iload_n 3, 1) := dd_get dm_L_law_2 45 rfl
theorem dL_law_364 : decode cL_law 364 = .ok (.iconst 2, 1) := dd_get dm_L_law_2 46 rfl
theorem dL_law_365 : decode cL_law 365 = .ok (.iadd, 1) := dd_get dm_L_law_2 47 rfl
theorem dL_law_366 : decode cL_law 366 = .ok (.iaload, 1) := dd_get dm_L_law_2 48 rfl
theorem dL_law_367 : decode cL_law 367 = .ok (.aload_n 0, 1) := dd_get dm_L_law_2 49 rfl
theorem dL_law_368 : decode cL_law 368 = .ok (.iload_n 3, 1) := dd_get dm_L_law_2 50 rfl
theorem dL_law_369 : decode cL_law 369 = .ok (.iconst 3, 1) := dd_get dm_L_law_2 51 rfl
theorem dL_law_370 : decode cL_law 370 = .ok (.iadd, 1) := dd_get dm_L_law_2 52 rfl
theorem dL_law_371 : decode cL_law 371 = .ok (.iaload, 1) := dd_get dm_L_law_2 53 rfl
theorem dL_law_372 : decode cL_law 372 = .ok (.i2l, 1) := dd_get dm_L_law_2 54 rfl
theorem dL_law_373 : decode cL_law 373 = .ok (.bipush 32, 2) := dd_get dm_L_law_2 55 rfl
theorem dL_law_375 : decode cL_law 375 = .ok (.lshl, 1) := dd_get dm_L_law_2 56 rfl
theorem dL_law_376 : decode cL_law 376 = .ok (.aload_n 0, 1) := dd_get dm_L_law_2 57 rfl
theorem dL_law_377 : decode cL_law 377 = .ok (.iload_n 3, 1) := dd_get dm_L_law_2 58 rfl
theorem dL_law_378 : decode cL_law 378 = .ok (.iconst 4, 1) := dd_get dm_L_law_2 59 rfl
theorem dm_L_law_3 : (([(379, .iadd, 1), (380, .iaload, 1), (381, .i2l, 1), (382, .ldc2_w 32, 3), (385, .land, 1), (386, .lor, 1), (387, .invokevirtual 34, 3), (390, .aload_n 2, 1), (391, .aload_n 0, 1), (392, .iload_n 3, 1), (393, .iconst 1, 1), (394, .iadd, 1), (395, .iaload, 1), (396, .aload_n 0, 1), (397, .iload_n 3, 1), (398, .iconst 2, 1), (399, .iadd, 1), (400, .iaload, 1), (401, .aload_n 0, 1), (402, .iload_n 3, 1), (403, .iconst 3, 1), (404, .iadd, 1), (405, .iaload, 1), (406, .i2l, 1), (407, .bipush 32, 2), (409, .lshl, 1), (410, .aload_n 0, 1), (411, .iload_n 3, 1), (412, .iconst 4, 1), (413, .iadd, 1), (414, .iaload, 1), (415, .i2l, 1), (416, .ldc2_w 32, 3), (419, .land, 1), (420, .lor, 1), (421, .invokevirtual 38, 3), (424, .if_icmp .eq 869, 3), (427, .iconst 0, 1), (428, .ireturn, 1), (429, .aload_n 1, 1), (430, .aload_n 0, 1), (431, .iload_n 3, 1), (432, .iconst 1, 1), (433, .iadd, 1), (434, .iaload, 1), (435, .aload_n 0, 1), (436, .iload_n 3, 1), (437, .iconst 2, 1), (438, .iadd, 1), (439, .iaload, 1), (440, .invokevirtual 39, 3), (443, .aload_n 2, 1), (444, .aload_n 0, 1), (445, .iload_n 3, 1), (446, .iconst 1, 1), (447, .iadd, 1), (448, .iaload, 1), (449, .aload_n 0, 1), (450, .iload_n 3, 1), (451, .iconst 2, 1)] : List (Nat × Instr × Nat)).all fun q => decide (decode cL_law q.1 = .ok (q.2.1, q.2.2))) = true := by decide +kernel
theorem dL_law_379 : decode cL_law 379 = .ok (.iadd, 1) := dd_get dm_L_law_3 0 rfl
theorem dL_law_380 : decode cL_law 380 = .ok (.iaload, 1) := dd_get dm_L_law_3 1 rfl
theorem dL_law_381 : decode cL_law 381 = .ok (.i2l, 1) := dd_get dm_L_law_3 2 rfl
theorem dL_law_382 : decode cL_law 382 = .ok (.ldc2_w 32, 3) := dd_get dm_L_law_3 3 rfl
theorem dL_law_385 : decode cL_law 385 = .ok (.land, 1) := dd_get dm_L_law_3 4 rfl
theorem dL_law_386 : decode cL_law 386 = .ok (.lor, 1) := dd_get dm_L_law_3 5 rfl
theorem dL_law_387 : decode cL_law 387 = .ok (.invokevirtual 34, 3) := dd_get dm_L_law_3 6 rfl
theorem dL_law_390 : decode cL_law 390 = .ok (.aload_n 2, 1) := dd_get dm_L_law_3 7 rfl
theorem dL_law_391 : decode cL_law 391 = .ok (.aload_n 0, 1) := dd_get dm_L_law_3 8 rfl
theorem dL_law_392 : decode cL_law 392 = .ok (.iload_n 3, 1) := dd_get dm_L_law_3 9 rfl
theorem dL_law_393 : decode cL_law 393 = .ok (.iconst 1, 1) := dd_get dm_L_law_3 10 rfl
theorem dL_law_394 : decode cL_law 394 = .ok (.iadd, 1) := dd_get dm_L_law_3 11 rfl
theorem dL_law_395 : decode cL_law 395 = .ok (.iaload, 1) := dd_get dm_L_law_3 12 rfl
theorem dL_law_396 : decode cL_law 396 = .ok (.aload_n 0, 1) := dd_get dm_L_law_3 13 rfl
theorem dL_law_397 : decode cL_law 397 = .ok (.iload_n 3, 1) := dd_get dm_L_law_3 14 rfl
theorem dL_law_398 : decode cL_law 398 = .ok (.iconst 2, 1) := dd_get dm_L_law_3 15 rfl
theorem dL_law_399 : decode cL_law 399 = .ok (.iadd, 1) := dd_get dm_L_law_3 16 rfl
theorem dL_law_400 : decode cL_law 400 = .ok (.iaload, 1) := dd_get dm_L_law_3 17 rfl
theorem dL_law_401 : decode cL_law 401 = .ok (.aload_n 0, 1) := dd_get dm_L_law_3 18 rfl
theorem dL_law_402 : decode cL_law 402 = .ok (.iload_n 3, 1) := dd_get dm_L_law_3 19 rfl
theorem dL_law_403 : decode cL_law 403 = .ok (.iconst 3, 1) := dd_get dm_L_law_3 20 rfl
theorem dL_law_404 : decode cL_law 404 = .ok (.iadd, 1) := dd_get dm_L_law_3 21 rfl
theorem dL_law_405 : decode cL_law 405 = .ok (.iaload, 1) := dd_get dm_L_law_3 22 rfl
theorem dL_law_406 : decode cL_law 406 = .ok (.i2l, 1) := dd_get dm_L_law_3 23 rfl
theorem dL_law_407 : decode cL_law 407 = .ok (.bipush 32, 2) := dd_get dm_L_law_3 24 rfl
theorem dL_law_409 : decode cL_law 409 = .ok (.lshl, 1) := dd_get dm_L_law_3 25 rfl
theorem dL_law_410 : decode cL_law 410 = .ok (.aload_n 0, 1) := dd_get dm_L_law_3 26 rfl
theorem dL_law_411 : decode cL_law 411 = .ok (.iload_n 3, 1) := dd_get dm_L_law_3 27 rfl
theorem dL_law_412 : decode cL_law 412 = .ok (.iconst 4, 1) := dd_get dm_L_law_3 28 rfl
theorem dL_law_413 : decode cL_law 413 = .ok (.iadd, 1) := dd_get dm_L_law_3 29 rfl
theorem dL_law_414 : decode cL_law 414 = .ok (.iaload, 1) := dd_get dm_L_law_3 30 rfl
theorem dL_law_415 : decode cL_law 415 = .ok (.i2l, 1) := dd_get dm_L_law_3 31 rfl
theorem dL_law_416 : decode cL_law 416 = .ok (.ldc2_w 32, 3) := dd_get dm_L_law_3 32 rfl
theorem dL_law_419 : decode cL_law 419 = .ok (.land, 1) := dd_get dm_L_law_3 33 rfl
theorem dL_law_420 : decode cL_law 420 = .ok (.lor, 1) := dd_get dm_L_law_3 34 rfl
theorem dL_law_421 : decode cL_law 421 = .ok (.invokevirtual 38, 3) := dd_get dm_L_law_3 35 rfl
theorem dL_law_424 : decode cL_law 424 = .ok (.if_icmp .eq 869, 3) := dd_get dm_L_law_3 36 rfl
theorem dL_law_427 : decode cL_law 427 = .ok (.iconst 0, 1) := dd_get dm_L_law_3 37 rfl
theorem dL_law_428 : decode cL_law 428 = .ok (.ireturn, 1) := dd_get dm_L_law_3 38 rfl
theorem dL_law_429 : decode cL_law 429 = .ok (.aload_n 1, 1) := dd_get dm_L_law_3 39 rfl
theorem dL_law_430 : decode cL_law 430 = .ok (.aload_n 0, 1) := dd_get dm_L_law_3 40 rfl
theorem dL_law_431 : decode cL_law 431 = .ok (.iload_n 3, 1) := dd_get dm_L_law_3 41 rfl
theorem dL_law_432 : decode cL_law 432 = .ok (.iconst 1, 1) := dd_get dm_L_law_3 42 rfl
theorem dL_law_433 : decode cL_law 433 = .ok (.iadd, 1) := dd_get dm_L_law_3 43 rfl
theorem dL_law_434 : decode cL_law 434 = .ok (.iaload, 1) := dd_get dm_L_law_3 44 rfl
theorem dL_law_435 : decode cL_law 435 = .ok (.aload_n 0, 1) := dd_get dm_L_law_3 45 rfl
theorem dL_law_436 : decode cL_law 436 = .ok (.iload_n 3, 1) := dd_get dm_L_law_3 46 rfl
theorem dL_law_437 : decode cL_law 437 = .ok (.iconst 2, 1) := dd_get dm_L_law_3 47 rfl
theorem dL_law_438 : decode cL_law 438 = .ok (.iadd, 1) := dd_get dm_L_law_3 48 rfl
theorem dL_law_439 : decode cL_law 439 = .ok (.iaload, 1) := dd_get dm_L_law_3 49 rfl
theorem dL_law_440 : decode cL_law 440 = .ok (.invokevirtual 39, 3) := dd_get dm_L_law_3 50 rfl
theorem dL_law_443 : decode cL_law 443 = .ok (.aload_n 2, 1) := dd_get dm_L_law_3 51 rfl
theorem dL_law_444 : decode cL_law 444 = .ok (.aload_n 0, 1) := dd_get dm_L_law_3 52 rfl
theorem dL_law_445 : decode cL_law 445 = .ok (.iload_n 3, 1) := dd_get dm_L_law_3 53 rfl
theorem dL_law_446 : decode cL_law 446 = .ok (.iconst 1, 1) := dd_get dm_L_law_3 54 rfl
theorem dL_law_447 : decode cL_law 447 = .ok (.iadd, 1) := dd_get dm_L_law_3 55 rfl
theorem dL_law_448 : decode cL_law 448 = .ok (.iaload, 1) := dd_get dm_L_law_3 56 rfl
theorem dL_law_449 : decode cL_law 449 = .ok (.aload_n 0, 1) := dd_get dm_L_law_3 57 rfl
theorem dL_law_450 : decode cL_law 450 = .ok (.iload_n 3, 1) := dd_get dm_L_law_3 58 rfl
theorem dL_law_451 : decode cL_law 451 = .ok (.iconst 2, 1) := dd_get dm_L_law_3 59 rfl
theorem dm_L_law_4 : (([(452, .iadd, 1), (453, .iaload, 1), (454, .invokevirtual 43, 3), (457, .lcmp, 1), (458, .ifCond .eq 835, 3), (461, .iconst 0, 1), (462, .ireturn, 1), (463, .aload_n 1, 1), (464, .aload_n 0, 1), (465, .iload_n 3, 1), (466, .iconst 1, 1), (467, .iadd, 1), (468, .iaload, 1), (469, .invokevirtual 44, 3), (472, .aload_n 2, 1), (473, .aload_n 0, 1), (474, .iload_n 3, 1), (475, .iconst 1, 1), (476, .iadd, 1), (477, .iaload, 1), (478, .invokevirtual 48, 3), (481, .if_icmp .eq 812, 3), (484, .iconst 0, 1), (485, .ireturn, 1), (486, .aload_n 1, 1), (487, .aload_n 0, 1), (488, .iload_n 3, 1), (489, .iconst 1, 1), (490, .iadd, 1), (491, .iaload, 1), (492, .aload_n 0, 1), (493, .iload_n 3, 1), (494, .iconst 2, 1), (495, .iadd, 1), (496, .iaload, 1), (497, .aload_n 0, 1), (498, .iload_n 3, 1), (499, .iconst 3, 1), (500, .iadd, 1), (501, .iaload, 1), (502, .aload_n 0, 1), (503, .iload_n 3, 1), (504, .iconst 4, 1), (505, .iadd, 1), (506, .iaload, 1), (507, .invokevirtual 49, 3), (510, .aload_n 2, 1), (511, .aload_n 0, 1), (512, .iload_n 3, 1), (513, .iconst 1, 1), (514, .iadd, 1), (515, .iaload, 1), (516, .aload_n 0, 1), (517, .iload_n 3, 1), (518, .iconst 2, 1), (519, .iadd, 1), (520, .iaload, 1), (521, .aload_n 0, 1), (522, .iload_n 3, 1), (523, .iconst 3, 1)] : List (Nat × Instr × Nat)).all fun q => decide (decode cL_law q.1 = .ok (q.2.1, q.2.2))) = true := by decide +kernel
theorem dL_law_452 : decode cL_law 452 = .ok (.iadd, 1) := dd_get dm_L_law_4 0 rfl
theorem dL_law_453 : decode cL_law 453 = .ok (.iaload, 1) := dd_get dm_L_law_4 1 rfl
theorem dL_law_454 : decode cL_law 454 = .ok (.invokevirtual 43, 3) := dd_get dm_L_law_4 2 rfl
theorem dL_law_457 : decode cL_law 457 = .ok (.lcmp, 1) := dd_get dm_L_law_4 3 rfl
theorem dL_law_458 : decode cL_law 458 = .ok (.ifCond .eq 835, 3) := dd_get dm_L_law_4 4 rfl
theorem dL_law_461 : decode cL_law 461 = .ok (.iconst 0, 1) := dd_get dm_L_law_4 5 rfl
theorem dL_law_462 : decode cL_law 462 = .ok (.ireturn, 1) := dd_get dm_L_law_4 6 rfl
theorem dL_law_463 : decode cL_law 463 = .ok (.aload_n 1, 1) := dd_get dm_L_law_4 7 rfl
theorem dL_law_464 : decode cL_law 464 = .ok (.aload_n 0, 1) := dd_get dm_L_law_4 8 rfl
theorem dL_law_465 : decode cL_law 465 = .ok (.iload_n 3, 1) := dd_get dm_L_law_4 9 rfl
theorem dL_law_466 : decode cL_law 466 = .ok (.iconst 1, 1) := dd_get dm_L_law_4 10 rfl
theorem dL_law_467 : decode cL_law 467 = .ok (.iadd, 1) := dd_get dm_L_law_4 11 rfl
theorem dL_law_468 : decode cL_law 468 = .ok (.iaload, 1) := dd_get dm_L_law_4 12 rfl
theorem dL_law_469 : decode cL_law 469 = .ok (.invokevirtual 44, 3) := dd_get dm_L_law_4 13 rfl
theorem dL_law_472 : decode cL_law 472 = .ok (.aload_n 2, 1) := dd_get dm_L_law_4 14 rfl
theorem dL_law_473 : decode cL_law 473 = .ok (.aload_n 0, 1) := dd_get dm_L_law_4 15 rfl
theorem dL_law_474 : decode cL_law 474 = .ok (.iload_n 3, 1) := dd_get dm_L_law_4 16 rfl
theorem dL_law_475 : decode cL_law 475 = .ok (.iconst 1, 1) := dd_get dm_L_law_4 17 rfl
theorem dL_law_476 : decode cL_law 476 = .ok (.iadd, 1) := dd_get dm_L_law_4 18 rfl
theorem dL_law_477 : decode cL_law 477 = .ok (.iaload, 1) := dd_get dm_L_law_4 19 rfl
theorem dL_law_478 : decode cL_law 478 = .ok (.invokevirtual 48, 3) := dd_get dm_L_law_4 20 rfl
theorem dL_law_481 : decode cL_law 481 = .ok (.if_icmp .eq 812, 3) := dd_get dm_L_law_4 21 rfl
theorem dL_law_484 : decode cL_law 484 = .ok (.iconst 0, 1) := dd_get dm_L_law_4 22 rfl
theorem dL_law_485 : decode cL_law 485 = .ok (.ireturn, 1) := dd_get dm_L_law_4 23 rfl
theorem dL_law_486 : decode cL_law 486 = .ok (.aload_n 1, 1) := dd_get dm_L_law_4 24 rfl
theorem dL_law_487 : decode cL_law 487 = .ok (.aload_n 0, 1) := dd_get dm_L_law_4 25 rfl
theorem dL_law_488 : decode cL_law 488 = .ok (.iload_n 3, 1) := dd_get dm_L_law_4 26 rfl
theorem dL_law_489 : decode cL_law 489 = .ok (.iconst 1, 1) := dd_get dm_L_law_4 27 rfl
theorem dL_law_490 : decode cL_law 490 = .ok (.iadd, 1) := dd_get dm_L_law_4 28 rfl
theorem dL_law_491 : decode cL_law 491 = .ok (.iaload, 1) := dd_get dm_L_law_4 29 rfl
theorem dL_law_492 : decode cL_law 492 = .ok (.aload_n 0, 1) := dd_get dm_L_law_4 30 rfl
theorem dL_law_493 : decode cL_law 493 = .ok (.iload_n 3, 1) := dd_get dm_L_law_4 31 rfl
theorem dL_law_494 : decode cL_law 494 = .ok (.iconst 2, 1) := dd_get dm_L_law_4 32 rfl
theorem dL_law_495 : decode cL_law 495 = .ok (.iadd, 1) := dd_get dm_L_law_4 33 rfl
theorem dL_law_496 : decode cL_law 496 = .ok (.iaload, 1) := dd_get dm_L_law_4 34 rfl
theorem dL_law_497 : decode cL_law 497 = .ok (.aload_n 0, 1) := dd_get dm_L_law_4 35 rfl
theorem dL_law_498 : decode cL_law 498 = .ok (.iload_n 3, 1) := dd_get dm_L_law_4 36 rfl
theorem dL_law_499 : decode cL_law 499 = .ok (.iconst 3, 1) := dd_get dm_L_law_4 37 rfl
theorem dL_law_500 : decode cL_law 500 = .ok (.iadd, 1) := dd_get dm_L_law_4 38 rfl
theorem dL_law_501 : decode cL_law 501 = .ok (.iaload, 1) := dd_get dm_L_law_4 39 rfl
theorem dL_law_502 : decode cL_law 502 = .ok (.aload_n 0, 1) := dd_get dm_L_law_4 40 rfl
theorem dL_law_503 : decode cL_law 503 = .ok (.iload_n 3, 1) := dd_get dm_L_law_4 41 rfl
theorem dL_law_504 : decode cL_law 504 = .ok (.iconst 4, 1) := dd_get dm_L_law_4 42 rfl
theorem dL_law_505 : decode cL_law 505 = .ok (.iadd, 1) := dd_get dm_L_law_4 43 rfl
theorem dL_law_506 : decode cL_law 506 = .ok (.iaload, 1) := dd_get dm_L_law_4 44 rfl
theorem dL_law_507 : decode cL_law 507 = .ok (.invokevirtual 49, 3) := dd_get dm_L_law_4 45 rfl
theorem dL_law_510 : decode cL_law 510 = .ok (.aload_n 2, 1) := dd_get dm_L_law_4 46 rfl
theorem dL_law_511 : decode cL_law 511 = .ok (.aload_n 0, 1) := dd_get dm_L_law_4 47 rfl
theorem dL_law_512 : decode cL_law 512 = .ok (.iload_n 3, 1) := dd_get dm_L_law_4 48 rfl
theorem dL_law_513 : decode cL_law 513 = .ok (.iconst 1, 1) := dd_get dm_L_law_4 49 rfl
theorem dL_law_514 : decode cL_law 514 = .ok (.iadd, 1) := dd_get dm_L_law_4 50 rfl
theorem dL_law_515 : decode cL_law 515 = .ok (.iaload, 1) := dd_get dm_L_law_4 51 rfl
theorem dL_law_516 : decode cL_law 516 = .ok (.aload_n 0, 1) := dd_get dm_L_law_4 52 rfl
theorem dL_law_517 : decode cL_law 517 = .ok (.iload_n 3, 1) := dd_get dm_L_law_4 53 rfl
theorem dL_law_518 : decode cL_law 518 = .ok (.iconst 2, 1) := dd_get dm_L_law_4 54 rfl
theorem dL_law_519 : decode cL_law 519 = .ok (.iadd, 1) := dd_get dm_L_law_4 55 rfl
theorem dL_law_520 : decode cL_law 520 = .ok (.iaload, 1) := dd_get dm_L_law_4 56 rfl
theorem dL_law_521 : decode cL_law 521 = .ok (.aload_n 0, 1) := dd_get dm_L_law_4 57 rfl
theorem dL_law_522 : decode cL_law 522 = .ok (.iload_n 3, 1) := dd_get dm_L_law_4 58 rfl
theorem dL_law_523 : decode cL_law 523 = .ok (.iconst 3, 1) := dd_get dm_L_law_4 59 rfl
theorem dm_L_law_5 : (([(524, .iadd, 1), (525, .iaload, 1), (526, .aload_n 0, 1), (527, .iload_n 3, 1), (528, .iconst 4, 1), (529, .iadd, 1), (530, .iaload, 1), (531, .invokevirtual 53, 3), (534, .if_icmp .eq 759, 3), (537, .iconst 0, 1), (538, .ireturn, 1), (539, .aload_n 1, 1), (540, .aload_n 0, 1), (541, .iload_n 3, 1), (542, .iconst 1, 1), (543, .iadd, 1), (544, .iaload, 1), (545, .aload_n 0, 1), (546, .iload_n 3, 1), (547, .iconst 2, 1), (548, .iadd, 1), (549, .iaload, 1), (550, .invokevirtual 54, 3), (553, .aload_n 2, 1), (554, .aload_n 0, 1), (555, .iload_n 3, 1), (556, .iconst 1, 1), (557, .iadd, 1), (558, .iaload, 1), (559, .aload_n 0, 1), (560, .iload_n 3, 1), (561, .iconst 2, 1), (562, .iadd, 1), (563, .iaload, 1), (564, .invokevirtual 57, 3), (567, .if_icmp .eq 726, 3), (570, .iconst 0, 1), (571, .ireturn, 1), (572, .aload_n 1, 1), (573, .aload_n 0, 1), (574, .iload_n 3, 1), (575, .iconst 1, 1), (576, .iadd, 1), (577, .iaload, 1), (578, .aload_n 0, 1), (579, .iload_n 3, 1), (580, .iconst 2, 1), (581, .iadd, 1), (582, .iaload, 1), (583, .aload_n 0, 1), (584, .iload_n 3, 1), (585, .iconst 3, 1), (586, .iadd, 1), (587, .iaload, 1), (588, .invokevirtual 58, 3), (591, .aload_n 2, 1), (592, .aload_n 0, 1), (593, .iload_n 3, 1), (594, .iconst 1, 1), (595, .iadd, 1)] : List (Nat × Instr × Nat)).all fun q => decide (decode cL_law q.1 = .ok (q.2.1, q.2.2))) = true := by decide +kernel
theorem dL_law_524 : decode cL_law 524 = .ok (.iadd, 1) := dd_get dm_L_law_5 0 rfl
theorem dL_law_525 : decode cL_law 525 = .ok (.iaload, 1) := dd_get dm_L_law_5 1 rfl
theorem dL_law_526 : decode cL_law 526 = .ok (.aload_n 0, 1) := dd_get dm_L_law_5 2 rfl
theorem dL_law_527 : decode cL_law 527 = .ok (.iload_n 3, 1) := dd_get dm_L_law_5 3 rfl
theorem dL_law_528 : decode cL_law 528 = .ok (.iconst 4, 1) := dd_get dm_L_law_5 4 rfl
theorem dL_law_529 : decode cL_law 529 = .ok (.iadd, 1) := dd_get dm_L_law_5 5 rfl
theorem dL_law_530 : decode cL_law 530 = .ok (.iaload, 1) := dd_get dm_L_law_5 6 rfl
theorem dL_law_531 : decode cL_law 531 = .ok (.invokevirtual 53, 3) := dd_get dm_L_law_5 7 rfl
theorem dL_law_534 : decode cL_law 534 = .ok (.if_icmp .eq 759, 3) := dd_get dm_L_law_5 8 rfl
theorem dL_law_537 : decode cL_law 537 = .ok (.iconst 0, 1) := dd_get dm_L_law_5 9 rfl
theorem dL_law_538 : decode cL_law 538 = .ok (.ireturn, 1) := dd_get dm_L_law_5 10 rfl
theorem dL_law_539 : decode cL_law 539 = .ok (.aload_n 1, 1) := dd_get dm_L_law_5 11 rfl
theorem dL_law_540 : decode cL_law 540 = .ok (.aload_n 0, 1) := dd_get dm_L_law_5 12 rfl
theorem dL_law_541 : decode cL_law 541 = .ok (.iload_n 3, 1) := dd_get dm_L_law_5 13 rfl
theorem dL_law_542 : decode cL_law 542 = .ok (.iconst 1, 1) := dd_get dm_L_law_5 14 rfl
theorem dL_law_543 : decode cL_law 543 = .ok (.iadd, 1) := dd_get dm_L_law_5 15 rfl
theorem dL_law_544 : decode cL_law 544 = .ok (.iaload, 1) := dd_get dm_L_law_5 16 rfl
theorem dL_law_545 : decode cL_law 545 = .ok (.aload_n 0, 1) := dd_get dm_L_law_5 17 rfl
theorem dL_law_546 : decode cL_law 546 = .ok (.iload_n 3, 1) := dd_get dm_L_law_5 18 rfl
theorem dL_law_547 : decode cL_law 547 = .ok (.iconst 2, 1) := dd_get dm_L_law_5 19 rfl
theorem dL_law_548 : decode cL_law 548 = .ok (.iadd, 1) := dd_get dm_L_law_5 20 rfl
theorem dL_law_549 : decode cL_law 549 = .ok (.iaload, 1) := dd_get dm_L_law_5 21 rfl
theorem dL_law_550 : decode cL_law 550 = .ok (.invokevirtual 54, 3) := dd_get dm_L_law_5 22 rfl
theorem dL_law_553 : decode cL_law 553 = .ok (.aload_n 2, 1) := dd_get dm_L_law_5 23 rfl
theorem dL_law_554 : decode cL_law 554 = .ok (.aload_n 0, 1) := dd_get dm_L_law_5 24 rfl
theorem dL_law_555 : decode cL_law 555 = .ok (.iload_n 3, 1) := dd_get dm_L_law_5 25 rfl
theorem dL_law_556 : decode cL_law 556 = .ok (.iconst 1, 1) := dd_get dm_L_law_5 26 rfl
theorem dL_law_557 : decode cL_law 557 = .ok (.iadd, 1) := dd_get dm_L_law_5 27 rfl
theorem dL_law_558 : decode cL_law 558 = .ok (.iaload, 1) := dd_get dm_L_law_5 28 rfl
theorem dL_law_559 : decode cL_law 559 = .ok (.aload_n 0, 1) := dd_get dm_L_law_5 29 rfl
theorem dL_law_560 : decode cL_law 560 = .ok (.iload_n 3, 1) := dd_get dm_L_law_5 30 rfl
theorem dL_law_561 : decode cL_law 561 = .ok (.iconst 2, 1) := dd_get dm_L_law_5 31 rfl
theorem dL_law_562 : decode cL_law 562 = .ok (.iadd, 1) := dd_get dm_L_law_5 32 rfl
theorem dL_law_563 : decode cL_law 563 = .ok (.iaload, 1) := dd_get dm_L_law_5 33 rfl
theorem dL_law_564 : decode cL_law 564 = .ok (.invokevirtual 57, 3) := dd_get dm_L_law_5 34 rfl
theorem dL_law_567 : decode cL_law 567 = .ok (.if_icmp .eq 726, 3) := dd_get dm_L_law_5 35 rfl
theorem dL_law_570 : decode cL_law 570 = .ok (.iconst 0, 1) := dd_get dm_L_law_5 36 rfl
theorem dL_law_571 : decode cL_law 571 = .ok (.ireturn, 1) := dd_get dm_L_law_5 37 rfl
theorem dL_law_572 : decode cL_law 572 = .ok (.aload_n 1, 1) := dd_get dm_L_law_5 38 rfl
theorem dL_law_573 : decode cL_law 573 = .ok (.aload_n 0, 1) := dd_get dm_L_law_5 39 rfl
theorem dL_law_574 : decode cL_law 574 = .ok (.iload_n 3, 1) := dd_get dm_L_law_5 40 rfl
theorem dL_law_575 : decode cL_law 575 = .ok (.iconst 1, 1) := dd_get dm_L_law_5 41 rfl
theorem dL_law_576 : decode cL_law 576 = .ok (.iadd, 1) := dd_get dm_L_law_5 42 rfl
theorem dL_law_577 : decode cL_law 577 = .ok (.iaload, 1) := dd_get dm_L_law_5 43 rfl
theorem dL_law_578 : decode cL_law 578 = .ok (.aload_n 0, 1) := dd_get dm_L_law_5 44 rfl
theorem dL_law_579 : decode cL_law 579 = .ok (.iload_n 3, 1) := dd_get dm_L_law_5 45 rfl
theorem dL_law_580 : decode cL_law 580 = .ok (.iconst 2, 1) := dd_get dm_L_law_5 46 rfl
theorem dL_law_581 : decode cL_law 581 = .ok (.iadd, 1) := dd_get dm_L_law_5 47 rfl
theorem dL_law_582 : decode cL_law 582 = .ok (.iaload, 1) := dd_get dm_L_law_5 48 rfl
theorem dL_law_583 : decode cL_law 583 = .ok (.aload_n 0, 1) := dd_get dm_L_law_5 49 rfl
theorem dL_law_584 : decode cL_law 584 = .ok (.iload_n 3, 1) := dd_get dm_L_law_5 50 rfl
theorem dL_law_585 : decode cL_law 585 = .ok (.iconst 3, 1) := dd_get dm_L_law_5 51 rfl
theorem dL_law_586 : decode cL_law 586 = .ok (.iadd, 1) := dd_get dm_L_law_5 52 rfl
theorem dL_law_587 : decode cL_law 587 = .ok (.iaload, 1) := dd_get dm_L_law_5 53 rfl
theorem dL_law_588 : decode cL_law 588 = .ok (.invokevirtual 58, 3) := dd_get dm_L_law_5 54 rfl
theorem dL_law_591 : decode cL_law 591 = .ok (.aload_n 2, 1) := dd_get dm_L_law_5 55 rfl
theorem dL_law_592 : decode cL_law 592 = .ok (.aload_n 0, 1) := dd_get dm_L_law_5 56 rfl
theorem dL_law_593 : decode cL_law 593 = .ok (.iload_n 3, 1) := dd_get dm_L_law_5 57 rfl
theorem dL_law_594 : decode cL_law 594 = .ok (.iconst 1, 1) := dd_get dm_L_law_5 58 rfl
theorem dL_law_595 : decode cL_law 595 = .ok (.iadd, 1) := dd_get dm_L_law_5 59 rfl
theorem dm_L_law_6 : (([(596, .iaload, 1), (597, .aload_n 0, 1), (598, .iload_n 3, 1), (599, .iconst 2, 1), (600, .iadd, 1), (601, .iaload, 1), (602, .aload_n 0, 1), (603, .iload_n 3, 1), (604, .iconst 3, 1), (605, .iadd, 1), (606, .iaload, 1), (607, .invokevirtual 61, 3), (610, .if_icmp .eq 683, 3), (613, .iconst 0, 1), (614, .ireturn, 1), (615, .aload_n 1, 1), (616, .aload_n 0, 1), (617, .iload_n 3, 1), (618, .iconst 1, 1), (619, .iadd, 1), (620, .iaload, 1), (621, .aload_n 0, 1), (622, .iload_n 3, 1), (623, .iconst 2, 1), (624, .iadd, 1), (625, .iaload, 1), (626, .aload_n 0, 1), (627, .iload_n 3, 1), (628, .iconst 3, 1), (629, .iadd, 1), (630, .iaload, 1), (631, .invokevirtual 62, 3), (634, .aload_n 2, 1), (635, .aload_n 0, 1), (636, .iload_n 3, 1), (637, .iconst 1, 1), (638, .iadd, 1), (639, .iaload, 1), (640, .aload_n 0, 1), (641, .iload_n 3, 1), (642, .iconst 2, 1), (643, .iadd, 1), (644, .iaload, 1), (645, .aload_n 0, 1), (646, .iload_n 3, 1), (647, .iconst 3, 1), (648, .iadd, 1), (649, .iaload, 1), (650, .invokevirtual 65, 3), (653, .if_icmp .eq 640, 3), (656, .iconst 0, 1), (657, .ireturn, 1), (658, .aload_n 1, 1), (659, .aload_n 0, 1), (660, .iload_n 3, 1), (661, .iconst 1, 1), (662, .iadd, 1), (663, .iaload, 1), (664, .aload_n 0, 1), (665, .iload_n 3, 1)] : List (Nat × Instr × Nat)).all fun q => decide (decode cL_law q.1 = .ok (q.2.1, q.2.2))) = true := by decide +kernel
theorem dL_law_596 : decode cL_law 596 = .ok (.iaload, 1) := dd_get dm_L_law_6 0 rfl
theorem dL_law_597 : decode cL_law 597 = .ok (.aload_n 0, 1) := dd_get dm_L_law_6 1 rfl
theorem dL_law_598 : decode cL_law 598 = .ok (.iload_n 3, 1) := dd_get dm_L_law_6 2 rfl
theorem dL_law_599 : decode cL_law 599 = .ok (.iconst 2, 1) := dd_get dm_L_law_6 3 rfl
theorem dL_law_600 : decode cL_law 600 = .ok (.iadd, 1) := dd_get dm_L_law_6 4 rfl
theorem dL_law_601 : decode cL_law 601 = .ok (.iaload, 1) := dd_get dm_L_law_6 5 rfl
theorem dL_law_602 : decode cL_law 602 = .ok (.aload_n 0, 1) := dd_get dm_L_law_6 6 rfl
theorem dL_law_603 : decode cL_law 603 = .ok (.iload_n 3, 1) := dd_get dm_L_law_6 7 rfl
theorem dL_law_604 : decode cL_law 604 = .ok (.iconst 3, 1) := dd_get dm_L_law_6 8 rfl
theorem dL_law_605 : decode cL_law 605 = .ok (.iadd, 1) := dd_get dm_L_law_6 9 rfl
theorem dL_law_606 : decode cL_law 606 = .ok (.iaload, 1) := dd_get dm_L_law_6 10 rfl
theorem dL_law_607 : decode cL_law 607 = .ok (.invokevirtual 61, 3) := dd_get dm_L_law_6 11 rfl
theorem dL_law_610 : decode cL_law 610 = .ok (.if_icmp .eq 683, 3) := dd_get dm_L_law_6 12 rfl
theorem dL_law_613 : decode cL_law 613 = .ok (.iconst 0, 1) := dd_get dm_L_law_6 13 rfl
theorem dL_law_614 : decode cL_law 614 = .ok (.ireturn, 1) := dd_get dm_L_law_6 14 rfl
theorem dL_law_615 : decode cL_law 615 = .ok (.aload_n 1, 1) := dd_get dm_L_law_6 15 rfl
theorem dL_law_616 : decode cL_law 616 = .ok (.aload_n 0, 1) := dd_get dm_L_law_6 16 rfl
theorem dL_law_617 : decode cL_law 617 = .ok (.iload_n 3, 1) := dd_get dm_L_law_6 17 rfl
theorem dL_law_618 : decode cL_law 618 = .ok (.iconst 1, 1) := dd_get dm_L_law_6 18 rfl
theorem dL_law_619 : decode cL_law 619 = .ok (.iadd, 1) := dd_get dm_L_law_6 19 rfl
theorem dL_law_620 : decode cL_law 620 = .ok (.iaload, 1) := dd_get dm_L_law_6 20 rfl
theorem dL_law_621 : decode cL_law 621 = .ok (.aload_n 0, 1) := dd_get dm_L_law_6 21 rfl
theorem dL_law_622 : decode cL_law 622 = .ok (.iload_n 3, 1) := dd_get dm_L_law_6 22 rfl
theorem dL_law_623 : decode cL_law 623 = .ok (.iconst 2, 1) := dd_get dm_L_law_6 23 rfl
theorem dL_law_624 : decode cL_law 624 = .ok (.iadd, 1) := dd_get dm_L_law_6 24 rfl
theorem dL_law_625 : decode cL_law 625 = .ok (.iaload, 1) := dd_get dm_L_law_6 25 rfl
theorem dL_law_626 : decode cL_law 626 = .ok (.aload_n 0, 1) := dd_get dm_L_law_6 26 rfl
theorem dL_law_627 : decode cL_law 627 = .ok (.iload_n 3, 1) := dd_get dm_L_law_6 27 rfl
theorem dL_law_628 : decode cL_law 628 = .ok (.iconst 3, 1) := dd_get dm_L_law_6 28 rfl
theorem dL_law_629 : decode cL_law 629 = .ok (.iadd, 1) := dd_get dm_L_law_6 29 rfl
theorem dL_law_630 : decode cL_law 630 = .ok (.iaload, 1) := dd_get dm_L_law_6 30 rfl
theorem dL_law_631 : decode cL_law 631 = .ok (.invokevirtual 62, 3) := dd_get dm_L_law_6 31 rfl
theorem dL_law_634 : decode cL_law 634 = .ok (.aload_n 2, 1) := dd_get dm_L_law_6 32 rfl
theorem dL_law_635 : decode cL_law 635 = .ok (.aload_n 0, 1) := dd_get dm_L_law_6 33 rfl
theorem dL_law_636 : decode cL_law 636 = .ok (.iload_n 3, 1) := dd_get dm_L_law_6 34 rfl
theorem dL_law_637 : decode cL_law 637 = .ok (.iconst 1, 1) := dd_get dm_L_law_6 35 rfl
theorem dL_law_638 : decode cL_law 638 = .ok (.iadd, 1) := dd_get dm_L_law_6 36 rfl
theorem dL_law_639 : decode cL_law 639 = .ok (.iaload, 1) := dd_get dm_L_law_6 37 rfl
theorem dL_law_640 : decode cL_law 640 = .ok (.aload_n 0, 1) := dd_get dm_L_law_6 38 rfl
theorem dL_law_641 : decode cL_law 641 = .ok (.iload_n 3, 1) := dd_get dm_L_law_6 39 rfl
theorem dL_law_642 : decode cL_law 642 = .ok (.iconst 2, 1) := dd_get dm_L_law_6 40 rfl
theorem dL_law_643 : decode cL_law 643 = .ok (.iadd, 1) := dd_get dm_L_law_6 41 rfl
theorem dL_law_644 : decode cL_law 644 = .ok (.iaload, 1) := dd_get dm_L_law_6 42 rfl
theorem dL_law_645 : decode cL_law 645 = .ok (.aload_n 0, 1) := dd_get dm_L_law_6 43 rfl
theorem dL_law_646 : decode cL_law 646 = .ok (.iload_n 3, 1) := dd_get dm_L_law_6 44 rfl
theorem dL_law_647 : decode cL_law 647 = .ok (.iconst 3, 1) := dd_get dm_L_law_6 45 rfl
theorem dL_law_648 : decode cL_law 648 = .ok (.iadd, 1) := dd_get dm_L_law_6 46 rfl
theorem dL_law_649 : decode cL_law 649 = .ok (.iaload, 1) := dd_get dm_L_law_6 47 rfl
theorem dL_law_650 : decode cL_law 650 = .ok (.invokevirtual 65, 3) := dd_get dm_L_law_6 48 rfl
theorem dL_law_653 : decode cL_law 653 = .ok (.if_icmp .eq 640, 3) := dd_get dm_L_law_6 49 rfl
theorem dL_law_656 : decode cL_law 656 = .ok (.iconst 0, 1) := dd_get dm_L_law_6 50 rfl
theorem dL_law_657 : decode cL_law 657 = .ok (.ireturn, 1) := dd_get dm_L_law_6 51 rfl
theorem dL_law_658 : decode cL_law 658 = .ok (.aload_n 1, 1) := dd_get dm_L_law_6 52 rfl
theorem dL_law_659 : decode cL_law 659 = .ok (.aload_n 0, 1) := dd_get dm_L_law_6 53 rfl
theorem dL_law_660 : decode cL_law 660 = .ok (.iload_n 3, 1) := dd_get dm_L_law_6 54 rfl
theorem dL_law_661 : decode cL_law 661 = .ok (.iconst 1, 1) := dd_get dm_L_law_6 55 rfl
theorem dL_law_662 : decode cL_law 662 = .ok (.iadd, 1) := dd_get dm_L_law_6 56 rfl
theorem dL_law_663 : decode cL_law 663 = .ok (.iaload, 1) := dd_get dm_L_law_6 57 rfl
theorem dL_law_664 : decode cL_law 664 = .ok (.aload_n 0, 1) := dd_get dm_L_law_6 58 rfl
theorem dL_law_665 : decode cL_law 665 = .ok (.iload_n 3, 1) := dd_get dm_L_law_6 59 rfl
theorem dm_L_law_7 : (([(666, .iconst 2, 1), (667, .iadd, 1), (668, .iaload, 1), (669, .ifCond .eq 7, 3), (672, .iconst 1, 1), (673, .goto 4, 3), (676, .iconst 0, 1), (677, .invokevirtual 66, 3), (680, .aload_n 2, 1), (681, .aload_n 0, 1), (682, .iload_n 3, 1), (683, .iconst 1, 1), (684, .iadd, 1), (685, .iaload, 1), (686, .aload_n 0, 1), (687, .iload_n 3, 1), (688, .iconst 2, 1), (689, .iadd, 1), (690, .iaload, 1), (691, .ifCond .eq 7, 3), (694, .iconst 1, 1), (695, .goto 4, 3), (698, .iconst 0, 1), (699, .invokevirtual 69, 3), (702, .if_icmp .eq 591, 3), (705, .iconst 0, 1), (706, .ireturn, 1), (707, .aload_n 1, 1), (708, .aload_n 0, 1), (709, .iload_n 3, 1), (710, .iconst 1, 1), (711, .iadd, 1), (712, .iaload, 1), (713, .invokevirtual 70, 3), (716, .aload_n 2, 1), (717, .aload_n 0, 1), (718, .iload_n 3, 1), (719, .iconst 1, 1), (720, .iadd, 1), (721, .iaload, 1), (722, .invokevirtual 73, 3), (725, .if_icmp .eq 568, 3), (728, .iconst 0, 1), (729, .ireturn, 1), (730, .aload_n 1, 1), (731, .aload_n 0, 1), (732, .iload_n 3, 1), (733, .iconst 1, 1), (734, .iadd, 1), (735, .iaload, 1), (736, .aload_n 0, 1), (737, .iload_n 3, 1), (738, .iconst 2, 1), (739, .iadd, 1), (740, .iaload, 1), (741, .invokevirtual 74, 3), (744, .aload_n 2, 1), (745, .aload_n 0, 1), (746, .iload_n 3, 1), (747, .iconst 1, 1)] : List (Nat × Instr × Nat)).all fun q => decide (decode cL_law q.1 = .ok (q.2.1, q.2.2))) = true := by decide +kernel
theorem dL_law_666 : decode cL_law 666 = .ok (.iconst 2, 1) := dd_get dm_L_law_7 0 rfl
theorem dL_law_667 : decode cL_law 667 = .ok (.iadd, 1) := dd_get dm_L_law_7 1 rfl
theorem dL_law_668 : decode cL_law 668 = .ok (.iaload, 1) := dd_get dm_L_law_7 2 rfl
theorem dL_law_669 : decode cL_law 669 = .ok (.ifCond .eq 7, 3) := dd_get dm_L_law_7 3 rfl
theorem dL_law_672 : decode cL_law 672 = .ok (.iconst 1, 1) := dd_get dm_L_law_7 4 rfl
theorem dL_law_673 : decode cL_law 673 = .ok (.goto 4, 3) := dd_get dm_L_law_7 5 rfl
theorem dL_law_676 : decode cL_law 676 = .ok (.iconst 0, 1) := dd_get dm_L_law_7 6 rfl
theorem dL_law_677 : decode cL_law 677 = .ok (.invokevirtual 66, 3) := dd_get dm_L_law_7 7 rfl
theorem dL_law_680 : decode cL_law 680 = .ok (.aload_n 2, 1) := dd_get dm_L_law_7 8 rfl
theorem dL_law_681 : decode cL_law 681 = .ok (.aload_n 0, 1) := dd_get dm_L_law_7 9 rfl
theorem dL_law_682 : decode cL_law 682 = .ok (.iload_n 3, 1) := dd_get dm_L_law_7 10 rfl
theorem dL_law_683 : decode cL_law 683 = .ok (.iconst 1, 1) := dd_get dm_L_law_7 11 rfl
theorem dL_law_684 : decode cL_law 684 = .ok (.iadd, 1) := dd_get dm_L_law_7 12 rfl
theorem dL_law_685 : decode cL_law 685 = .ok (.iaload, 1) := dd_get dm_L_law_7 13 rfl
theorem dL_law_686 : decode cL_law 686 = .ok (.aload_n 0, 1) := dd_get dm_L_law_7 14 rfl
theorem dL_law_687 : decode cL_law 687 = .ok (.iload_n 3, 1) := dd_get dm_L_law_7 15 rfl
theorem dL_law_688 : decode cL_law 688 = .ok (.iconst 2, 1) := dd_get dm_L_law_7 16 rfl
theorem dL_law_689 : decode cL_law 689 = .ok (.iadd, 1) := dd_get dm_L_law_7 17 rfl
theorem dL_law_690 : decode cL_law 690 = .ok (.iaload, 1) := dd_get dm_L_law_7 18 rfl
theorem dL_law_691 : decode cL_law 691 = .ok (.ifCond .eq 7, 3) := dd_get dm_L_law_7 19 rfl
theorem dL_law_694 : decode cL_law 694 = .ok (.iconst 1, 1) := dd_get dm_L_law_7 20 rfl
theorem dL_law_695 : decode cL_law 695 = .ok (.goto 4, 3) := dd_get dm_L_law_7 21 rfl
theorem dL_law_698 : decode cL_law 698 = .ok (.iconst 0, 1) := dd_get dm_L_law_7 22 rfl
theorem dL_law_699 : decode cL_law 699 = .ok (.invokevirtual 69, 3) := dd_get dm_L_law_7 23 rfl
theorem dL_law_702 : decode cL_law 702 = .ok (.if_icmp .eq 591, 3) := dd_get dm_L_law_7 24 rfl
theorem dL_law_705 : decode cL_law 705 = .ok (.iconst 0, 1) := dd_get dm_L_law_7 25 rfl
theorem dL_law_706 : decode cL_law 706 = .ok (.ireturn, 1) := dd_get dm_L_law_7 26 rfl
theorem dL_law_707 : decode cL_law 707 = .ok (.aload_n 1, 1) := dd_get dm_L_law_7 27 rfl
theorem dL_law_708 : decode cL_law 708 = .ok (.aload_n 0, 1) := dd_get dm_L_law_7 28 rfl
theorem dL_law_709 : decode cL_law 709 = .ok (.iload_n 3, 1) := dd_get dm_L_law_7 29 rfl
theorem dL_law_710 : decode cL_law 710 = .ok (.iconst 1, 1) := dd_get dm_L_law_7 30 rfl
theorem dL_law_711 : decode cL_law 711 = .ok (.iadd, 1) := dd_get dm_L_law_7 31 rfl
theorem dL_law_712 : decode cL_law 712 = .ok (.iaload, 1) := dd_get dm_L_law_7 32 rfl
theorem dL_law_713 : decode cL_law 713 = .ok (.invokevirtual 70, 3) := dd_get dm_L_law_7 33 rfl
theorem dL_law_716 : decode cL_law 716 = .ok (.aload_n 2, 1) := dd_get dm_L_law_7 34 rfl
theorem dL_law_717 : decode cL_law 717 = .ok (.aload_n 0, 1) := dd_get dm_L_law_7 35 rfl
theorem dL_law_718 : decode cL_law 718 = .ok (.iload_n 3, 1) := dd_get dm_L_law_7 36 rfl
theorem dL_law_719 : decode cL_law 719 = .ok (.iconst 1, 1) := dd_get dm_L_law_7 37 rfl
theorem dL_law_720 : decode cL_law 720 = .ok (.iadd, 1) := dd_get dm_L_law_7 38 rfl
theorem dL_law_721 : decode cL_law 721 = .ok (.iaload, 1) := dd_get dm_L_law_7 39 rfl
theorem dL_law_722 : decode cL_law 722 = .ok (.invokevirtual 73, 3) := dd_get dm_L_law_7 40 rfl
theorem dL_law_725 : decode cL_law 725 = .ok (.if_icmp .eq 568, 3) := dd_get dm_L_law_7 41 rfl
theorem dL_law_728 : decode cL_law 728 = .ok (.iconst 0, 1) := dd_get dm_L_law_7 42 rfl
theorem dL_law_729 : decode cL_law 729 = .ok (.ireturn, 1) := dd_get dm_L_law_7 43 rfl
theorem dL_law_730 : decode cL_law 730 = .ok (.aload_n 1, 1) := dd_get dm_L_law_7 44 rfl
theorem dL_law_731 : decode cL_law 731 = .ok (.aload_n 0, 1) := dd_get dm_L_law_7 45 rfl
theorem dL_law_732 : decode cL_law 732 = .ok (.iload_n 3, 1) := dd_get dm_L_law_7 46 rfl
theorem dL_law_733 : decode cL_law 733 = .ok (.iconst 1, 1) := dd_get dm_L_law_7 47 rfl
theorem dL_law_734 : decode cL_law 734 = .ok (.iadd, 1) := dd_get dm_L_law_7 48 rfl
theorem dL_law_735 : decode cL_law 735 = .ok (.iaload, 1) := dd_get dm_L_law_7 49 rfl
theorem dL_law_736 : decode cL_law 736 = .ok (.aload_n 0, 1) := dd_get dm_L_law_7 50 rfl
theorem dL_law_737 : decode cL_law 737 = .ok (.iload_n 3, 1) := dd_get dm_L_law_7 51 rfl
theorem dL_law_738 : decode cL_law 738 = .ok (.iconst 2, 1) := dd_get dm_L_law_7 52 rfl
theorem dL_law_739 : decode cL_law 739 = .ok (.iadd, 1) := dd_get dm_L_law_7 53 rfl
theorem dL_law_740 : decode cL_law 740 = .ok (.iaload, 1) := dd_get dm_L_law_7 54 rfl
theorem dL_law_741 : decode cL_law 741 = .ok (.invokevirtual 74, 3) := dd_get dm_L_law_7 55 rfl
theorem dL_law_744 : decode cL_law 744 = .ok (.aload_n 2, 1) := dd_get dm_L_law_7 56 rfl
theorem dL_law_745 : decode cL_law 745 = .ok (.aload_n 0, 1) := dd_get dm_L_law_7 57 rfl
theorem dL_law_746 : decode cL_law 746 = .ok (.iload_n 3, 1) := dd_get dm_L_law_7 58 rfl
theorem dL_law_747 : decode cL_law 747 = .ok (.iconst 1, 1) := dd_get dm_L_law_7 59 rfl
theorem dm_L_law_8 : (([(748, .iadd, 1), (749, .iaload, 1), (750, .aload_n 0, 1), (751, .iload_n 3, 1), (752, .iconst 2, 1), (753, .iadd, 1), (754, .iaload, 1), (755, .invokevirtual 77, 3), (758, .if_icmp .eq 535, 3), (761, .iconst 0, 1), (762, .ireturn, 1), (763, .aload_n 1, 1), (764, .aload_n 0, 1), (765, .iload_n 3, 1), (766, .iconst 1, 1), (767, .iadd, 1), (768, .iaload, 1), (769, .invokevirtual 78, 3), (772, .aload_n 2, 1), (773, .aload_n 0, 1), (774, .iload_n 3, 1), (775, .iconst 1, 1), (776, .iadd, 1), (777, .iaload, 1), (778, .invokevirtual 81, 3), (781, .if_icmp .eq 512, 3), (784, .iconst 0, 1), (785, .ireturn, 1), (786, .aload_n 1, 1), (787, .invokevirtual 82, 3), (790, .aload_n 2, 1), (791, .invokevirtual 86, 3), (794, .if_icmp .eq 499, 3), (797, .iconst 0, 1), (798, .ireturn, 1), (799, .aload_n 1, 1), (800, .invokevirtual 87, 3), (803, .aload_n 2, 1), (804, .invokevirtual 90, 3), (807, .if_icmp .eq 486, 3), (810, .iconst 0, 1), (811, .ireturn, 1), (812, .aload_n 1, 1), (813, .aload_n 0, 1), (814, .iload_n 3, 1), (815, .iconst 1, 1), (816, .iadd, 1), (817, .iaload, 1), (818, .aload_n 0, 1), (819, .iload_n 3, 1), (820, .iconst 2, 1), (821, .iadd, 1), (822, .iaload, 1), (823, .aload_n 0, 1), (824, .iload_n 3, 1), (825, .iconst 3, 1), (826, .iadd, 1), (827, .iaload, 1), (828, .ifCond .eq 7, 3), (831, .iconst 1, 1)] : List (Nat × Instr × Nat)).all fun q => decide (decode cL_law q.1 = .ok (q.2.1, q.2.2))) = true := by decide +kernel
theorem dL_law_748 : decode cL_law 748 = .ok (.iadd, 1) := dd_get dm_L_law_8 0 rfl
theorem dL_law_749 : decode cL_law 749 = .ok (.iaload, 1) := dd_get dm_L_law_8 1 rfl
theorem dL_law_750 : decode cL_law 750 = .ok (.aload_n 0, 1) := dd_get dm_L_law_8 2 rfl
theorem dL_law_751 : decode cL_law 751 = .ok (.iload_n 3, 1) := dd_get dm_L_law_8 3 rfl
theorem dL_law_752 : decode cL_law 752 = .ok (.iconst 2, 1) := dd_get dm_L_law_8 4 rfl
theorem dL_law_753 : decode cL_law 753 = .ok (.iadd, 1) := dd_get dm_L_law_8 5 rfl
theorem dL_law_754 : decode cL_law 754 = .ok (.iaload, 1) := dd_get dm_L_law_8 6 rfl
theorem dL_law_755 : decode cL_law 755 = .ok (.invokevirtual 77, 3) := dd_get dm_L_law_8 7 rfl
theorem dL_law_758 : decode cL_law 758 = .ok (.if_icmp .eq 535, 3) := dd_get dm_L_law_8 8 rfl
theorem dL_law_761 : decode cL_law 761 = .ok (.iconst 0, 1) := dd_get dm_L_law_8 9 rfl
theorem dL_law_762 : decode cL_law 762 = .ok (.ireturn, 1) := dd_get dm_L_law_8 10 rfl
theorem dL_law_763 : decode cL_law 763 = .ok (.aload_n 1, 1) := dd_get dm_L_law_8 11 rfl
theorem dL_law_764 : decode cL_law 764 = .ok (.aload_n 0, 1) := dd_get dm_L_law_8 12 rfl
theorem dL_law_765 : decode cL_law 765 = .ok (.iload_n 3, 1) := dd_get dm_L_law_8 13 rfl
theorem dL_law_766 : decode cL_law 766 = .ok (.iconst 1, 1) := dd_get dm_L_law_8 14 rfl
theorem dL_law_767 : decode cL_law 767 = .ok (.iadd, 1) := dd_get dm_L_law_8 15 rfl
theorem dL_law_768 : decode cL_law 768 = .ok (.iaload, 1) := dd_get dm_L_law_8 16 rfl
theorem dL_law_769 : decode cL_law 769 = .ok (.invokevirtual 78, 3) := dd_get dm_L_law_8 17 rfl
theorem dL_law_772 : decode cL_law 772 = .ok (.aload_n 2, 1) := dd_get dm_L_law_8 18 rfl
theorem dL_law_773 : decode cL_law 773 = .ok (.aload_n 0, 1) := dd_get dm_L_law_8 19 rfl
theorem dL_law_774 : decode cL_law 774 = .ok (.iload_n 3, 1) := dd_get dm_L_law_8 20 rfl
theorem dL_law_775 : decode cL_law 775 = .ok (.iconst 1, 1) := dd_get dm_L_law_8 21 rfl
theorem dL_law_776 : decode cL_law 776 = .ok (.iadd, 1) := dd_get dm_L_law_8 22 rfl
theorem dL_law_777 : decode cL_law 777 = .ok (.iaload, 1) := dd_get dm_L_law_8 23 rfl
theorem dL_law_778 : decode cL_law 778 = .ok (.invokevirtual 81, 3) := dd_get dm_L_law_8 24 rfl
theorem dL_law_781 : decode cL_law 781 = .ok (.if_icmp .eq 512, 3) := dd_get dm_L_law_8 25 rfl
theorem dL_law_784 : decode cL_law 784 = .ok (.iconst 0, 1) := dd_get dm_L_law_8 26 rfl
theorem dL_law_785 : decode cL_law 785 = .ok (.ireturn, 1) := dd_get dm_L_law_8 27 rfl
theorem dL_law_786 : decode cL_law 786 = .ok (.aload_n 1, 1) := dd_get dm_L_law_8 28 rfl
theorem dL_law_787 : decode cL_law 787 = .ok (.invokevirtual 82, 3) := dd_get dm_L_law_8 29 rfl
theorem dL_law_790 : decode cL_law 790 = .ok (.aload_n 2, 1) := dd_get dm_L_law_8 30 rfl
theorem dL_law_791 : decode cL_law 791 = .ok (.invokevirtual 86, 3) := dd_get dm_L_law_8 31 rfl
theorem dL_law_794 : decode cL_law 794 = .ok (.if_icmp .eq 499, 3) := dd_get dm_L_law_8 32 rfl
theorem dL_law_797 : decode cL_law 797 = .ok (.iconst 0, 1) := dd_get dm_L_law_8 33 rfl
theorem dL_law_798 : decode cL_law 798 = .ok (.ireturn, 1) := dd_get dm_L_law_8 34 rfl
theorem dL_law_799 : decode cL_law 799 = .ok (.aload_n 1, 1) := dd_get dm_L_law_8 35 rfl
theorem dL_law_800 : decode cL_law 800 = .ok (.invokevirtual 87, 3) := dd_get dm_L_law_8 36 rfl
theorem dL_law_803 : decode cL_law 803 = .ok (.aload_n 2, 1) := dd_get dm_L_law_8 37 rfl
theorem dL_law_804 : decode cL_law 804 = .ok (.invokevirtual 90, 3) := dd_get dm_L_law_8 38 rfl
theorem dL_law_807 : decode cL_law 807 = .ok (.if_icmp .eq 486, 3) := dd_get dm_L_law_8 39 rfl
theorem dL_law_810 : decode cL_law 810 = .ok (.iconst 0, 1) := dd_get dm_L_law_8 40 rfl
theorem dL_law_811 : decode cL_law 811 = .ok (.ireturn, 1) := dd_get dm_L_law_8 41 rfl
theorem dL_law_812 : decode cL_law 812 = .ok (.aload_n 1, 1) := dd_get dm_L_law_8 42 rfl
theorem dL_law_813 : decode cL_law 813 = .ok (.aload_n 0, 1) := dd_get dm_L_law_8 43 rfl
theorem dL_law_814 : decode cL_law 814 = .ok (.iload_n 3, 1) := dd_get dm_L_law_8 44 rfl
theorem dL_law_815 : decode cL_law 815 = .ok (.iconst 1, 1) := dd_get dm_L_law_8 45 rfl
theorem dL_law_816 : decode cL_law 816 = .ok (.iadd, 1) := dd_get dm_L_law_8 46 rfl
theorem dL_law_817 : decode cL_law 817 = .ok (.iaload, 1) := dd_get dm_L_law_8 47 rfl
theorem dL_law_818 : decode cL_law 818 = .ok (.aload_n 0, 1) := dd_get dm_L_law_8 48 rfl
theorem dL_law_819 : decode cL_law 819 = .ok (.iload_n 3, 1) := dd_get dm_L_law_8 49 rfl
theorem dL_law_820 : decode cL_law 820 = .ok (.iconst 2, 1) := dd_get dm_L_law_8 50 rfl
theorem dL_law_821 : decode cL_law 821 = .ok (.iadd, 1) := dd_get dm_L_law_8 51 rfl
theorem dL_law_822 : decode cL_law 822 = .ok (.iaload, 1) := dd_get dm_L_law_8 52 rfl
theorem dL_law_823 : decode cL_law 823 = .ok (.aload_n 0, 1) := dd_get dm_L_law_8 53 rfl
theorem dL_law_824 : decode cL_law 824 = .ok (.iload_n 3, 1) := dd_get dm_L_law_8 54 rfl
theorem dL_law_825 : decode cL_law 825 = .ok (.iconst 3, 1) := dd_get dm_L_law_8 55 rfl
theorem dL_law_826 : decode cL_law 826 = .ok (.iadd, 1) := dd_get dm_L_law_8 56 rfl
theorem dL_law_827 : decode cL_law 827 = .ok (.iaload, 1) := dd_get dm_L_law_8 57 rfl
theorem dL_law_828 : decode cL_law 828 = .ok (.ifCond .eq 7, 3) := dd_get dm_L_law_8 58 rfl
theorem dL_law_831 : decode cL_law 831 = .ok (.iconst 1, 1) := dd_get dm_L_law_8 59 rfl
theorem dm_L_law_9 : (([(832, .goto 4, 3), (835, .iconst 0, 1), (836, .invokevirtual 91, 3), (839, .aload_n 2, 1), (840, .aload_n 0, 1), (841, .iload_n 3, 1), (842, .iconst 1, 1), (843, .iadd, 1), (844, .iaload, 1), (845, .aload_n 0, 1), (846, .iload_n 3, 1), (847, .iconst 2, 1), (848, .iadd, 1), (849, .iaload, 1), (850, .aload_n 0, 1), (851, .iload_n 3, 1), (852, .iconst 3, 1), (853, .iadd, 1), (854, .iaload, 1), (855, .ifCond .eq 7, 3), (858, .iconst 1, 1), (859, .goto 4, 3), (862, .iconst 0, 1), (863, .invokevirtual 95, 3), (866, .if_icmp .eq 427, 3), (869, .iconst 0, 1), (870, .ireturn, 1), (871, .aload_n 1, 1), (872, .aload_n 0, 1), (873, .iload_n 3, 1), (874, .iconst 1, 1), (875, .iadd, 1), (876, .iaload, 1), (877, .invokevirtual 96, 3), (880, .aload_n 2, 1), (881, .aload_n 0, 1), (882, .iload_n 3, 1), (883, .iconst 1, 1), (884, .iadd, 1), (885, .iaload, 1), (886, .invokevirtual 99, 3), (889, .if_icmp .eq 404, 3), (892, .iconst 0, 1), (893, .ireturn, 1), (894, .aload_n 1, 1), (895, .invokevirtual 100, 3), (898, .aload_n 2, 1), (899, .invokevirtual 103, 3), (902, .if_icmp .eq 391, 3), (905, .iconst 0, 1), (906, .ireturn, 1), (907, .aload_n 1, 1), (908, .aload_n 0, 1), (909, .iload_n 3, 1), (910, .iconst 1, 1), (911, .iadd, 1), (912, .iaload, 1), (913, .invokevirtual 104, 3), (916, .aload_n 2, 1), (917, .aload_n 0, 1)] : List (Nat × Instr × Nat)).all fun q => decide (decode cL_law q.1 = .ok (q.2.1, q.2.2))) = true := by decide +kernel
theorem dL_law_832 : decode cL_law 832 = .ok (.goto 4, 3) := dd_get dm_L_law_9 0 rfl
theorem dL_law_835 : decode cL_law 835 = .ok (.iconst 0, 1) := dd_get dm_L_law_9 1 rfl
theorem dL_law_836 : decode cL_law 836 = .ok (.invokevirtual 91, 3) := dd_get dm_L_law_9 2 rfl
theorem dL_law_839 : decode cL_law 839 = .ok (.aload_n 2, 1) := dd_get dm_L_law_9 3 rfl
theorem dL_law_840 : decode cL_law 840 = .ok (.aload_n 0, 1) := dd_get dm_L_law_9 4 rfl
theorem dL_law_841 : decode cL_law 841 = .ok (.iload_n 3, 1) := dd_get dm_L_law_9 5 rfl
theorem dL_law_842 : decode cL_law 842 = .ok (.iconst 1, 1) := dd_get dm_L_law_9 6 rfl
theorem dL_law_843 : decode cL_law 843 = .ok (.iadd, 1) := dd_get dm_L_law_9 7 rfl
theorem dL_law_844 : decode cL_law 844 = .ok (.iaload, 1) := dd_get dm_L_law_9 8 rfl
theorem dL_law_845 : decode cL_law 845 = .ok (.aload_n 0, 1) := dd_get dm_L_law_9 9 rfl
theorem dL_law_846 : decode cL_law 846 = .ok (.iload_n 3, 1) := dd_get dm_L_law_9 10 rfl
theorem dL_law_847 : decode cL_law 847 = .ok (.iconst 2, 1) := dd_get dm_L_law_9 11 rfl
theorem dL_law_848 : decode cL_law 848 = .ok (.iadd, 1) := dd_get dm_L_law_9 12 rfl
theorem dL_law_849 : decode cL_law 849 = .ok (.iaload, 1) := dd_get dm_L_law_9 13 rfl
theorem dL_law_850 : decode cL_law 850 = .ok (.aload_n 0, 1) := dd_get dm_L_law_9 14 rfl
theorem dL_law_851 : decode cL_law 851 = .ok (.iload_n 3, 1) := dd_get dm_L_law_9 15 rfl
theorem dL_law_852 : decode cL_law 852 = .ok (.iconst 3, 1) := dd_get dm_L_law_9 16 rfl
theorem dL_law_853 : decode cL_law 853 = .ok (.iadd, 1) := dd_get dm_L_law_9 17 rfl
theorem dL_law_854 : decode cL_law 854 = .ok (.iaload, 1) := dd_get dm_L_law_9 18 rfl
theorem dL_law_855 : decode cL_law 855 = .ok (.ifCond .eq 7, 3) := dd_get dm_L_law_9 19 rfl
theorem dL_law_858 : decode cL_law 858 = .ok (.iconst 1, 1) := dd_get dm_L_law_9 20 rfl
theorem dL_law_859 : decode cL_law 859 = .ok (.goto 4, 3) := dd_get dm_L_law_9 21 rfl
theorem dL_law_862 : decode cL_law 862 = .ok (.iconst 0, 1) := dd_get dm_L_law_9 22 rfl
theorem dL_law_863 : decode cL_law 863 = .ok (.invokevirtual 95, 3) := dd_get dm_L_law_9 23 rfl
theorem dL_law_866 : decode cL_law 866 = .ok (.if_icmp .eq 427, 3) := dd_get dm_L_law_9 24 rfl
theorem dL_law_869 : decode cL_law 869 = .ok (.iconst 0, 1) := dd_get dm_L_law_9 25 rfl
theorem dL_law_870 : decode cL_law 870 = .ok (.ireturn, 1) := dd_get dm_L_law_9 26 rfl
theorem dL_law_871 : decode cL_law 871 = .ok (.aload_n 1, 1) := dd_get dm_L_law_9 27 rfl
theorem dL_law_872 : decode cL_law 872 = .ok (.aload_n 0, 1) := dd_get dm_L_law_9 28 rfl
theorem dL_law_873 : decode cL_law 873 = .ok (.iload_n 3, 1) := dd_get dm_L_law_9 29 rfl
theorem dL_law_874 : decode cL_law 874 = .ok (.iconst 1, 1) := dd_get dm_L_law_9 30 rfl
theorem dL_law_875 : decode cL_law 875 = .ok (.iadd, 1) := dd_get dm_L_law_9 31 rfl
theorem dL_law_876 : decode cL_law 876 = .ok (.iaload, 1) := dd_get dm_L_law_9 32 rfl
theorem dL_law_877 : decode cL_law 877 = .ok (.invokevirtual 96, 3) := dd_get dm_L_law_9 33 rfl
theorem dL_law_880 : decode cL_law 880 = .ok (.aload_n 2, 1) := dd_get dm_L_law_9 34 rfl
theorem dL_law_881 : decode cL_law 881 = .ok (.aload_n 0, 1) := dd_get dm_L_law_9 35 rfl
theorem dL_law_882 : decode cL_law 882 = .ok (.iload_n 3, 1) := dd_get dm_L_law_9 36 rfl
theorem dL_law_883 : decode cL_law 883 = .ok (.iconst 1, 1) := dd_get dm_L_law_9 37 rfl
theorem dL_law_884 : decode cL_law 884 = .ok (.iadd, 1) := dd_get dm_L_law_9 38 rfl
theorem dL_law_885 : decode cL_law 885 = .ok (.iaload, 1) := dd_get dm_L_law_9 39 rfl
theorem dL_law_886 : decode cL_law 886 = .ok (.invokevirtual 99, 3) := dd_get dm_L_law_9 40 rfl
theorem dL_law_889 : decode cL_law 889 = .ok (.if_icmp .eq 404, 3) := dd_get dm_L_law_9 41 rfl
theorem dL_law_892 : decode cL_law 892 = .ok (.iconst 0, 1) := dd_get dm_L_law_9 42 rfl
theorem dL_law_893 : decode cL_law 893 = .ok (.ireturn, 1) := dd_get dm_L_law_9 43 rfl
theorem dL_law_894 : decode cL_law 894 = .ok (.aload_n 1, 1) := dd_get dm_L_law_9 44 rfl
theorem dL_law_895 : decode cL_law 895 = .ok (.invokevirtual 100, 3) := dd_get dm_L_law_9 45 rfl
theorem dL_law_898 : decode cL_law 898 = .ok (.aload_n 2, 1) := dd_get dm_L_law_9 46 rfl
theorem dL_law_899 : decode cL_law 899 = .ok (.invokevirtual 103, 3) := dd_get dm_L_law_9 47 rfl
theorem dL_law_902 : decode cL_law 902 = .ok (.if_icmp .eq 391, 3) := dd_get dm_L_law_9 48 rfl
theorem dL_law_905 : decode cL_law 905 = .ok (.iconst 0, 1) := dd_get dm_L_law_9 49 rfl
theorem dL_law_906 : decode cL_law 906 = .ok (.ireturn, 1) := dd_get dm_L_law_9 50 rfl
theorem dL_law_907 : decode cL_law 907 = .ok (.aload_n 1, 1) := dd_get dm_L_law_9 51 rfl
theorem dL_law_908 : decode cL_law 908 = .ok (.aload_n 0, 1) := dd_get dm_L_law_9 52 rfl
theorem dL_law_909 : decode cL_law 909 = .ok (.iload_n 3, 1) := dd_get dm_L_law_9 53 rfl
theorem dL_law_910 : decode cL_law 910 = .ok (.iconst 1, 1) := dd_get dm_L_law_9 54 rfl
theorem dL_law_911 : decode cL_law 911 = .ok (.iadd, 1) := dd_get dm_L_law_9 55 rfl
theorem dL_law_912 : decode cL_law 912 = .ok (.iaload, 1) := dd_get dm_L_law_9 56 rfl
theorem dL_law_913 : decode cL_law 913 = .ok (.invokevirtual 104, 3) := dd_get dm_L_law_9 57 rfl
theorem dL_law_916 : decode cL_law 916 = .ok (.aload_n 2, 1) := dd_get dm_L_law_9 58 rfl
theorem dL_law_917 : decode cL_law 917 = .ok (.aload_n 0, 1) := dd_get dm_L_law_9 59 rfl
theorem dm_L_law_10 : (([(918, .iload_n 3, 1), (919, .iconst 1, 1), (920, .iadd, 1), (921, .iaload, 1), (922, .invokevirtual 107, 3), (925, .if_icmp .eq 368, 3), (928, .iconst 0, 1), (929, .ireturn, 1), (930, .aload_n 1, 1), (931, .invokevirtual 108, 3), (934, .aload_n 2, 1), (935, .invokevirtual 111, 3), (938, .if_icmp .eq 355, 3), (941, .iconst 0, 1), (942, .ireturn, 1), (943, .aload_n 1, 1), (944, .invokevirtual 112, 3), (947, .aload_n 2, 1), (948, .invokevirtual 115, 3), (951, .if_icmp .eq 342, 3), (954, .iconst 0, 1), (955, .ireturn, 1), (956, .aload_n 1, 1), (957, .aload_n 0, 1), (958, .iload_n 3, 1), (959, .iconst 1, 1), (960, .iadd, 1), (961, .iaload, 1), (962, .aload_n 0, 1), (963, .iload_n 3, 1), (964, .iconst 2, 1), (965, .iadd, 1), (966, .iaload, 1), (967, .invokevirtual 116, 3), (970, .aload_n 2, 1), (971, .aload_n 0, 1), (972, .iload_n 3, 1), (973, .iconst 1, 1), (974, .iadd, 1), (975, .iaload, 1), (976, .aload_n 0, 1), (977, .iload_n 3, 1), (978, .iconst 2, 1), (979, .iadd, 1), (980, .iaload, 1), (981, .invokevirtual 119, 3), (984, .if_icmp .eq 309, 3), (987, .iconst 0, 1), (988, .ireturn, 1), (989, .aload_n 1, 1), (990, .invokevirtual 120, 3), (993, .aload_n 2, 1), (994, .invokevirtual 123, 3), (997, .if_icmp .eq 296, 3), (1000, .iconst 0, 1), (1001, .ireturn, 1), (1002, .aload_n 1, 1), (1003, .aload_n 0, 1), (1004, .iload_n 3, 1), (1005, .iconst 1, 1)] : List (Nat × Instr × Nat)).all fun q => decide (decode cL_law q.1 = .ok (q.2.1, q.2.2))) = true := by decide +kernel
theorem dL_law_918 : decode cL_law 918 = .ok (.iload_n 3, 1) := dd_get dm_L_law_10 0 rfl
theorem dL_law_919 : decode cL_law 919 = .ok (.iconst 1, 1) := dd_get dm_L_law_10 1 rfl
theorem dL_law_920 : decode cL_law 920 = .ok (.iadd, 1) := dd_get dm_L_law_10 2 rfl
theorem dL_law_921 : decode cL_law 921 = .ok (.iaload, 1) := dd_get dm_L_law_10 3 rfl
theorem dL_law_922 : decode cL_law 922 = .ok (.invokevirtual 107, 3) := dd_get dm_L_law_10 4 rfl
theorem dL_law_925 : decode cL_law 925 = .ok (.if_icmp .eq 368, 3) := dd_get dm_L_law_10 5 rfl
theorem dL_law_928 : decode cL_law 928 = .ok (.iconst 0, 1) := dd_get dm_L_law_10 6 rfl
theorem dL_law_929 : decode cL_law 929 = .ok (.ireturn, 1) := dd_get dm_L_law_10 7 rfl
theorem dL_law_930 : decode cL_law 930 = .ok (.aload_n 1, 1) := dd_get dm_L_law_10 8 rfl
theorem dL_law_931 : decode cL_law 931 = .ok (.invokevirtual 108, 3) := dd_get dm_L_law_10 9 rfl
theorem dL_law_934 : decode cL_law 934 = .ok (.aload_n 2, 1) := dd_get dm_L_law_10 10 rfl
theorem dL_law_935 : decode cL_law 935 = .ok (.invokevirtual 111, 3) := dd_get dm_L_law_10 11 rfl
theorem dL_law_938 : decode cL_law 938 = .ok (.if_icmp .eq 355, 3) := dd_get dm_L_law_10 12 rfl
theorem dL_law_941 : decode cL_law 941 = .ok (.iconst 0, 1) := dd_get dm_L_law_10 13 rfl
theorem dL_law_942 : decode cL_law 942 = .ok (.ireturn, 1) := dd_get dm_L_law_10 14 rfl
theorem dL_law_943 : decode cL_law 943 = .ok (.aload_n 1, 1) := dd_get dm_L_law_10 15 rfl
theorem dL_law_944 : decode cL_law 944 = .ok (.invokevirtual 112, 3) := dd_get dm_L_law_10 16 rfl
theorem dL_law_947 : decode cL_law 947 = .ok (.aload_n 2, 1) := dd_get dm_L_law_10 17 rfl
theorem dL_law_948 : decode cL_law 948 = .ok (.invokevirtual 115, 3) := dd_get dm_L_law_10 18 rfl
theorem dL_law_951 : decode cL_law 951 = .ok (.if_icmp .eq 342, 3) := dd_get dm_L_law_10 19 rfl
theorem dL_law_954 : decode cL_law 954 = .ok (.iconst 0, 1) := dd_get dm_L_law_10 20 rfl
theorem dL_law_955 : decode cL_law 955 = .ok (.ireturn, 1) := dd_get dm_L_law_10 21 rfl
theorem dL_law_956 : decode cL_law 956 = .ok (.aload_n 1, 1) := dd_get dm_L_law_10 22 rfl
theorem dL_law_957 : decode cL_law 957 = .ok (.aload_n 0, 1) := dd_get dm_L_law_10 23 rfl
theorem dL_law_958 : decode cL_law 958 = .ok (.iload_n 3, 1) := dd_get dm_L_law_10 24 rfl
theorem dL_law_959 : decode cL_law 959 = .ok (.iconst 1, 1) := dd_get dm_L_law_10 25 rfl
theorem dL_law_960 : decode cL_law 960 = .ok (.iadd, 1) := dd_get dm_L_law_10 26 rfl
theorem dL_law_961 : decode cL_law 961 = .ok (.iaload, 1) := dd_get dm_L_law_10 27 rfl
theorem dL_law_962 : decode cL_law 962 = .ok (.aload_n 0, 1) := dd_get dm_L_law_10 28 rfl
theorem dL_law_963 : decode cL_law 963 = .ok (.iload_n 3, 1) := dd_get dm_L_law_10 29 rfl
theorem dL_law_964 : decode cL_law 964 = .ok (.iconst 2, 1) := dd_get dm_L_law_10 30 rfl
theorem dL_law_965 : decode cL_law 965 = .ok (.iadd, 1) := dd_get dm_L_law_10 31 rfl
theorem dL_law_966 : decode cL_law 966 = .ok (.iaload, 1) := dd_get dm_L_law_10 32 rfl
theorem dL_law_967 : decode cL_law 967 = .ok (.invokevirtual 116, 3) := dd_get dm_L_law_10 33 rfl
theorem dL_law_970 : decode cL_law 970 = .ok (.aload_n 2, 1) := dd_get dm_L_law_10 34 rfl
theorem dL_law_971 : decode cL_law 971 = .ok (.aload_n 0, 1) := dd_get dm_L_law_10 35 rfl
theorem dL_law_972 : decode cL_law 972 = .ok (.iload_n 3, 1) := dd_get dm_L_law_10 36 rfl
theorem dL_law_973 : decode cL_law 973 = .ok (.iconst 1, 1) := dd_get dm_L_law_10 37 rfl
theorem dL_law_974 : decode cL_law 974 = .ok (.iadd, 1) := dd_get dm_L_law_10 38 rfl
theorem dL_law_975 : decode cL_law 975 = .ok (.iaload, 1) := dd_get dm_L_law_10 39 rfl
theorem dL_law_976 : decode cL_law 976 = .ok (.aload_n 0, 1) := dd_get dm_L_law_10 40 rfl
theorem dL_law_977 : decode cL_law 977 = .ok (.iload_n 3, 1) := dd_get dm_L_law_10 41 rfl
theorem dL_law_978 : decode cL_law 978 = .ok (.iconst 2, 1) := dd_get dm_L_law_10 42 rfl
theorem dL_law_979 : decode cL_law 979 = .ok (.iadd, 1) := dd_get dm_L_law_10 43 rfl
theorem dL_law_980 : decode cL_law 980 = .ok (.iaload, 1) := dd_get dm_L_law_10 44 rfl
theorem dL_law_981 : decode cL_law 981 = .ok (.invokevirtual 119, 3) := dd_get dm_L_law_10 45 rfl
theorem dL_law_984 : decode cL_law 984 = .ok (.if_icmp .eq 309, 3) := dd_get dm_L_law_10 46 rfl
theorem dL_law_987 : decode cL_law 987 = .ok (.iconst 0, 1) := dd_get dm_L_law_10 47 rfl
theorem dL_law_988 : decode cL_law 988 = .ok (.ireturn, 1) := dd_get dm_L_law_10 48 rfl
theorem dL_law_989 : decode cL_law 989 = .ok (.aload_n 1, 1) := dd_get dm_L_law_10 49 rfl
theorem dL_law_990 : decode cL_law 990 = .ok (.invokevirtual 120, 3) := dd_get dm_L_law_10 50 rfl
theorem dL_law_993 : decode cL_law 993 = .ok (.aload_n 2, 1) := dd_get dm_L_law_10 51 rfl
theorem dL_law_994 : decode cL_law 994 = .ok (.invokevirtual 123, 3) := dd_get dm_L_law_10 52 rfl
theorem dL_law_997 : decode cL_law 997 = .ok (.if_icmp .eq 296, 3) := dd_get dm_L_law_10 53 rfl
theorem dL_law_1000 : decode cL_law 1000 = .ok (.iconst 0, 1) := dd_get dm_L_law_10 54 rfl
theorem dL_law_1001 : decode cL_law 1001 = .ok (.ireturn, 1) := dd_get dm_L_law_10 55 rfl
theorem dL_law_1002 : decode cL_law 1002 = .ok (.aload_n 1, 1) := dd_get dm_L_law_10 56 rfl
theorem dL_law_1003 : decode cL_law 1003 = .ok (.aload_n 0, 1) := dd_get dm_L_law_10 57 rfl
theorem dL_law_1004 : decode cL_law 1004 = .ok (.iload_n 3, 1) := dd_get dm_L_law_10 58 rfl
theorem dL_law_1005 : decode cL_law 1005 = .ok (.iconst 1, 1) := dd_get dm_L_law_10 59 rfl
theorem dm_L_law_11 : (([(1006, .iadd, 1), (1007, .iaload, 1), (1008, .aload_n 0, 1), (1009, .iload_n 3, 1), (1010, .iconst 2, 1), (1011, .iadd, 1), (1012, .iaload, 1), (1013, .invokevirtual 124, 3), (1016, .aload_n 2, 1), (1017, .aload_n 0, 1), (1018, .iload_n 3, 1), (1019, .iconst 1, 1), (1020, .iadd, 1), (1021, .iaload, 1), (1022, .aload_n 0, 1), (1023, .iload_n 3, 1), (1024, .iconst 2, 1), (1025, .iadd, 1), (1026, .iaload, 1), (1027, .invokevirtual 127, 3), (1030, .if_icmp .eq 263, 3), (1033, .iconst 0, 1), (1034, .ireturn, 1), (1035, .aload_n 1, 1), (1036, .aload_n 0, 1), (1037, .iload_n 3, 1), (1038, .iconst 1, 1), (1039, .iadd, 1), (1040, .iaload, 1), (1041, .invokevirtual 128, 3), (1044, .aload_n 2, 1), (1045, .aload_n 0, 1), (1046, .iload_n 3, 1), (1047, .iconst 1, 1), (1048, .iadd, 1), (1049, .iaload, 1), (1050, .invokevirtual 131, 3), (1053, .if_icmp .eq 240, 3), (1056, .iconst 0, 1), (1057, .ireturn, 1), (1058, .aload_n 1, 1), (1059, .invokevirtual 132, 3), (1062, .aload_n 2, 1), (1063, .invokevirtual 136, 3), (1066, .lcmp, 1), (1067, .ifCond .eq 226, 3), (1070, .iconst 0, 1), (1071, .ireturn, 1), (1072, .aload_n 1, 1), (1073, .aload_n 0, 1), (1074, .iload_n 3, 1), (1075, .iconst 1, 1), (1076, .iadd, 1), (1077, .iaload, 1), (1078, .invokevirtual 137, 3), (1081, .aload_n 2, 1), (1082, .aload_n 0, 1), (1083, .iload_n 3, 1), (1084, .iconst 1, 1), (1085, .iadd, 1)] : List (Nat × Instr × Nat)).all fun q => decide (decode cL_law q.1 = .ok (q.2.1, q.2.2))) = true := by decide +kernel
theorem dL_law_1006 : decode cL_law 1006 = .ok (.iadd, 1) := dd_get dm_L_law_11 0 rfl
theorem dL_law_1007 : decode cL_law 1007 = .ok (.iaload, 1) := dd_get dm_L_law_11 1 rfl
theorem dL_law_1008 : decode cL_law 1008 = .ok (.aload_n 0, 1) := dd_get dm_L_law_11 2 rfl
theorem dL_law_1009 : decode cL_law 1009 = .ok (.iload_n 3, 1) := dd_get dm_L_law_11 3 rfl
theorem dL_law_1010 : decode cL_law 1010 = .ok (.iconst 2, 1) := dd_get dm_L_law_11 4 rfl
theorem dL_law_1011 : decode cL_law 1011 = .ok (.iadd, 1) := dd_get dm_L_law_11 5 rfl
theorem dL_law_1012 : decode cL_law 1012 = .ok (.iaload, 1) := dd_get dm_L_law_11 6 rfl
theorem dL_law_1013 : decode cL_law 1013 = .ok (.invokevirtual 124, 3) := dd_get dm_L_law_11 7 rfl
theorem dL_law_1016 : decode cL_law 1016 = .ok (.aload_n 2, 1) := dd_get dm_L_law_11 8 rfl
theorem dL_law_1017 : decode cL_law 1017 = .ok (.aload_n 0, 1) := dd_get dm_L_law_11 9 rfl
theorem dL_law_1018 : decode cL_law 1018 = .ok (.iload_n 3, 1) := dd_get dm_L_law_11 10 rfl
theorem dL_law_1019 : decode cL_law 1019 = .ok (.iconst 1, 1) := dd_get dm_L_law_11 11 rfl
theorem dL_law_1020 : decode cL_law 1020 = .ok (.iadd, 1) := dd_get dm_L_law_11 12 rfl
theorem dL_law_1021 : decode cL_law 1021 = .ok (.iaload, 1) := dd_get dm_L_law_11 13 rfl
theorem dL_law_1022 : decode cL_law 1022 = .ok (.aload_n 0, 1) := dd_get dm_L_law_11 14 rfl
theorem dL_law_1023 : decode cL_law 1023 = .ok (.iload_n 3, 1) := dd_get dm_L_law_11 15 rfl
theorem dL_law_1024 : decode cL_law 1024 = .ok (.iconst 2, 1) := dd_get dm_L_law_11 16 rfl
theorem dL_law_1025 : decode cL_law 1025 = .ok (.iadd, 1) := dd_get dm_L_law_11 17 rfl
theorem dL_law_1026 : decode cL_law 1026 = .ok (.iaload, 1) := dd_get dm_L_law_11 18 rfl
theorem dL_law_1027 : decode cL_law 1027 = .ok (.invokevirtual 127, 3) := dd_get dm_L_law_11 19 rfl
theorem dL_law_1030 : decode cL_law 1030 = .ok (.if_icmp .eq 263, 3) := dd_get dm_L_law_11 20 rfl
theorem dL_law_1033 : decode cL_law 1033 = .ok (.iconst 0, 1) := dd_get dm_L_law_11 21 rfl
theorem dL_law_1034 : decode cL_law 1034 = .ok (.ireturn, 1) := dd_get dm_L_law_11 22 rfl
theorem dL_law_1035 : decode cL_law 1035 = .ok (.aload_n 1, 1) := dd_get dm_L_law_11 23 rfl
theorem dL_law_1036 : decode cL_law 1036 = .ok (.aload_n 0, 1) := dd_get dm_L_law_11 24 rfl
theorem dL_law_1037 : decode cL_law 1037 = .ok (.iload_n 3, 1) := dd_get dm_L_law_11 25 rfl
theorem dL_law_1038 : decode cL_law 1038 = .ok (.iconst 1, 1) := dd_get dm_L_law_11 26 rfl
theorem dL_law_1039 : decode cL_law 1039 = .ok (.iadd, 1) := dd_get dm_L_law_11 27 rfl
theorem dL_law_1040 : decode cL_law 1040 = .ok (.iaload, 1) := dd_get dm_L_law_11 28 rfl
theorem dL_law_1041 : decode cL_law 1041 = .ok (.invokevirtual 128, 3) := dd_get dm_L_law_11 29 rfl
theorem dL_law_1044 : decode cL_law 1044 = .ok (.aload_n 2, 1) := dd_get dm_L_law_11 30 rfl
theorem dL_law_1045 : decode cL_law 1045 = .ok (.aload_n 0, 1) := dd_get dm_L_law_11 31 rfl
theorem dL_law_1046 : decode cL_law 1046 = .ok (.iload_n 3, 1) := dd_get dm_L_law_11 32 rfl
theorem dL_law_1047 : decode cL_law 1047 = .ok (.iconst 1, 1) := dd_get dm_L_law_11 33 rfl
theorem dL_law_1048 : decode cL_law 1048 = .ok (.iadd, 1) := dd_get dm_L_law_11 34 rfl
theorem dL_law_1049 : decode cL_law 1049 = .ok (.iaload, 1) := dd_get dm_L_law_11 35 rfl
theorem dL_law_1050 : decode cL_law 1050 = .ok (.invokevirtual 131, 3) := dd_get dm_L_law_11 36 rfl
theorem dL_law_1053 : decode cL_law 1053 = .ok (.if_icmp .eq 240, 3) := dd_get dm_L_law_11 37 rfl
theorem dL_law_1056 : decode cL_law 1056 = .ok (.iconst 0, 1) := dd_get dm_L_law_11 38 rfl
theorem dL_law_1057 : decode cL_law 1057 = .ok (.ireturn, 1) := dd_get dm_L_law_11 39 rfl
theorem dL_law_1058 : decode cL_law 1058 = .ok (.aload_n 1, 1) := dd_get dm_L_law_11 40 rfl
theorem dL_law_1059 : decode cL_law 1059 = .ok (.invokevirtual 132, 3) := dd_get dm_L_law_11 41 rfl
theorem dL_law_1062 : decode cL_law 1062 = .ok (.aload_n 2, 1) := dd_get dm_L_law_11 42 rfl
theorem dL_law_1063 : decode cL_law 1063 = .ok (.invokevirtual 136, 3) := dd_get dm_L_law_11 43 rfl
theorem dL_law_1066 : decode cL_law 1066 = .ok (.lcmp, 1) := dd_get dm_L_law_11 44 rfl
theorem dL_law_1067 : decode cL_law 1067 = .ok (.ifCond .eq 226, 3) := dd_get dm_L_law_11 45 rfl
theorem dL_law_1070 : decode cL_law 1070 = .ok (.iconst 0, 1) := dd_get dm_L_law_11 46 rfl
theorem dL_law_1071 : decode cL_law 1071 = .ok (.ireturn, 1) := dd_get dm_L_law_11 47 rfl
theorem dL_law_1072 : decode cL_law 1072 = .ok (.aload_n 1, 1) := dd_get dm_L_law_11 48 rfl
theorem dL_law_1073 : decode cL_law 1073 = .ok (.aload_n 0, 1) := dd_get dm_L_law_11 49 rfl
theorem dL_law_1074 : decode cL_law 1074 = .ok (.iload_n 3, 1) := dd_get dm_L_law_11 50 rfl
theorem dL_law_1075 : decode cL_law 1075 = .ok (.iconst 1, 1) := dd_get dm_L_law_11 51 rfl
theorem dL_law_1076 : decode cL_law 1076 = .ok (.iadd, 1) := dd_get dm_L_law_11 52 rfl
theorem dL_law_1077 : decode cL_law 1077 = .ok (.iaload, 1) := dd_get dm_L_law_11 53 rfl
theorem dL_law_1078 : decode cL_law 1078 = .ok (.invokevirtual 137, 3) := dd_get dm_L_law_11 54 rfl
theorem dL_law_1081 : decode cL_law 1081 = .ok (.aload_n 2, 1) := dd_get dm_L_law_11 55 rfl
theorem dL_law_1082 : decode cL_law 1082 = .ok (.aload_n 0, 1) := dd_get dm_L_law_11 56 rfl
theorem dL_law_1083 : decode cL_law 1083 = .ok (.iload_n 3, 1) := dd_get dm_L_law_11 57 rfl
theorem dL_law_1084 : decode cL_law 1084 = .ok (.iconst 1, 1) := dd_get dm_L_law_11 58 rfl
theorem dL_law_1085 : decode cL_law 1085 = .ok (.iadd, 1) := dd_get dm_L_law_11 59 rfl
theorem dm_L_law_12 : (([(1086, .iaload, 1), (1087, .invokevirtual 140, 3), (1090, .if_icmp .eq 203, 3), (1093, .iconst 0, 1), (1094, .ireturn, 1), (1095, .aload_n 1, 1), (1096, .aload_n 0, 1), (1097, .iload_n 3, 1), (1098, .iconst 1, 1), (1099, .iadd, 1), (1100, .iaload, 1), (1101, .invokevirtual 141, 3), (1104, .aload_n 2, 1), (1105, .aload_n 0, 1), (1106, .iload_n 3, 1), (1107, .iconst 1, 1), (1108, .iadd, 1), (1109, .iaload, 1), (1110, .invokevirtual 144, 3), (1113, .if_icmp .eq 180, 3), (1116, .iconst 0, 1), (1117, .ireturn, 1), (1118, .aload_n 1, 1), (1119, .aload_n 0, 1), (1120, .iload_n 3, 1), (1121, .iconst 1, 1), (1122, .iadd, 1), (1123, .iaload, 1), (1124, .aload_n 0, 1), (1125, .iload_n 3, 1), (1126, .iconst 2, 1), (1127, .iadd, 1), (1128, .iaload, 1), (1129, .aload_n 0, 1), (1130, .iload_n 3, 1), (1131, .iconst 3, 1), (1132, .iadd, 1), (1133, .iaload, 1), (1134, .invokevirtual 145, 3), (1137, .aload_n 2, 1), (1138, .aload_n 0, 1), (1139, .iload_n 3, 1), (1140, .iconst 1, 1), (1141, .iadd, 1), (1142, .iaload, 1), (1143, .aload_n 0, 1), (1144, .iload_n 3, 1), (1145, .iconst 2, 1), (1146, .iadd, 1), (1147, .iaload, 1), (1148, .aload_n 0, 1), (1149, .iload_n 3, 1), (1150, .iconst 3, 1), (1151, .iadd, 1), (1152, .iaload, 1), (1153, .invokevirtual 148, 3), (1156, .if_icmp .eq 137, 3), (1159, .iconst 0, 1), (1160, .ireturn, 1), (1161, .aload_n 1, 1)] : List (Nat × Instr × Nat)).all fun q => decide (decode cL_law q.1 = .ok (q.2.1, q.2.2))) = true := by decide +kernel
theorem dL_law_1086 : decode cL_law 1086 = .ok (.iaload, 1) := dd_get dm_L_law_12 0 rfl
theorem dL_law_1087 : decode cL_law 1087 = .ok (.invokevirtual 140, 3) := dd_get dm_L_law_12 1 rfl
theorem dL_law_1090 : decode cL_law 1090 = .ok (.if_icmp .eq 203, 3) := dd_get dm_L_law_12 2 rfl
theorem dL_law_1093 : decode cL_law 1093 = .ok (.iconst 0, 1) := dd_get dm_L_law_12 3 rfl
theorem dL_law_1094 : decode cL_law 1094 = .ok (.ireturn, 1) := dd_get dm_L_law_12 4 rfl
theorem dL_law_1095 : decode cL_law 1095 = .ok (.aload_n 1, 1) := dd_get dm_L_law_12 5 rfl
theorem dL_law_1096 : decode cL_law 1096 = .ok (.aload_n 0, 1) := dd_get dm_L_law_12 6 rfl
theorem dL_law_1097 : decode cL_law 1097 = .ok (.iload_n 3, 1) := dd_get dm_L_law_12 7 rfl
theorem dL_law_1098 : decode cL_law 1098 = .ok (.iconst 1, 1) := dd_get dm_L_law_12 8 rfl
theorem dL_law_1099 : decode cL_law 1099 = .ok (.iadd, 1) := dd_get dm_L_law_12 9 rfl
theorem dL_law_1100 : decode cL_law 1100 = .ok (.iaload, 1) := dd_get dm_L_law_12 10 rfl
theorem dL_law_1101 : decode cL_law 1101 = .ok (.invokevirtual 141, 3) := dd_get dm_L_law_12 11 rfl
theorem dL_law_1104 : decode cL_law 1104 = .ok (.aload_n 2, 1) := dd_get dm_L_law_12 12 rfl
theorem dL_law_1105 : decode cL_law 1105 = .ok (.aload_n 0, 1) := dd_get dm_L_law_12 13 rfl
theorem dL_law_1106 : decode cL_law 1106 = .ok (.iload_n 3, 1) := dd_get dm_L_law_12 14 rfl
theorem dL_law_1107 : decode cL_law 1107 = .ok (.iconst 1, 1) := dd_get dm_L_law_12 15 rfl
theorem dL_law_1108 : decode cL_law 1108 = .ok (.iadd, 1) := dd_get dm_L_law_12 16 rfl
theorem dL_law_1109 : decode cL_law 1109 = .ok (.iaload, 1) := dd_get dm_L_law_12 17 rfl
theorem dL_law_1110 : decode cL_law 1110 = .ok (.invokevirtual 144, 3) := dd_get dm_L_law_12 18 rfl
theorem dL_law_1113 : decode cL_law 1113 = .ok (.if_icmp .eq 180, 3) := dd_get dm_L_law_12 19 rfl
theorem dL_law_1116 : decode cL_law 1116 = .ok (.iconst 0, 1) := dd_get dm_L_law_12 20 rfl
theorem dL_law_1117 : decode cL_law 1117 = .ok (.ireturn, 1) := dd_get dm_L_law_12 21 rfl
theorem dL_law_1118 : decode cL_law 1118 = .ok (.aload_n 1, 1) := dd_get dm_L_law_12 22 rfl
theorem dL_law_1119 : decode cL_law 1119 = .ok (.aload_n 0, 1) := dd_get dm_L_law_12 23 rfl
theorem dL_law_1120 : decode cL_law 1120 = .ok (.iload_n 3, 1) := dd_get dm_L_law_12 24 rfl
theorem dL_law_1121 : decode cL_law 1121 = .ok (.iconst 1, 1) := dd_get dm_L_law_12 25 rfl
theorem dL_law_1122 : decode cL_law 1122 = .ok (.iadd, 1) := dd_get dm_L_law_12 26 rfl
theorem dL_law_1123 : decode cL_law 1123 = .ok (.iaload, 1) := dd_get dm_L_law_12 27 rfl
theorem dL_law_1124 : decode cL_law 1124 = .ok (.aload_n 0, 1) := dd_get dm_L_law_12 28 rfl
theorem dL_law_1125 : decode cL_law 1125 = .ok (.iload_n 3, 1) := dd_get dm_L_law_12 29 rfl
theorem dL_law_1126 : decode cL_law 1126 = .ok (.iconst 2, 1) := dd_get dm_L_law_12 30 rfl
theorem dL_law_1127 : decode cL_law 1127 = .ok (.iadd, 1) := dd_get dm_L_law_12 31 rfl
theorem dL_law_1128 : decode cL_law 1128 = .ok (.iaload, 1) := dd_get dm_L_law_12 32 rfl
theorem dL_law_1129 : decode cL_law 1129 = .ok (.aload_n 0, 1) := dd_get dm_L_law_12 33 rfl
theorem dL_law_1130 : decode cL_law 1130 = .ok (.iload_n 3, 1) := dd_get dm_L_law_12 34 rfl
theorem dL_law_1131 : decode cL_law 1131 = .ok (.iconst 3, 1) := dd_get dm_L_law_12 35 rfl
theorem dL_law_1132 : decode cL_law 1132 = .ok (.iadd, 1) := dd_get dm_L_law_12 36 rfl
theorem dL_law_1133 : decode cL_law 1133 = .ok (.iaload, 1) := dd_get dm_L_law_12 37 rfl
theorem dL_law_1134 : decode cL_law 1134 = .ok (.invokevirtual 145, 3) := dd_get dm_L_law_12 38 rfl
theorem dL_law_1137 : decode cL_law 1137 = .ok (.aload_n 2, 1) := dd_get dm_L_law_12 39 rfl
theorem dL_law_1138 : decode cL_law 1138 = .ok (.aload_n 0, 1) := dd_get dm_L_law_12 40 rfl
theorem dL_law_1139 : decode cL_law 1139 = .ok (.iload_n 3, 1) := dd_get dm_L_law_12 41 rfl
theorem dL_law_1140 : decode cL_law 1140 = .ok (.iconst 1, 1) := dd_get dm_L_law_12 42 rfl
theorem dL_law_1141 : decode cL_law 1141 = .ok (.iadd, 1) := dd_get dm_L_law_12 43 rfl
theorem dL_law_1142 : decode cL_law 1142 = .ok (.iaload, 1) := dd_get dm_L_law_12 44 rfl
theorem dL_law_1143 : decode cL_law 1143 = .ok (.aload_n 0, 1) := dd_get dm_L_law_12 45 rfl
theorem dL_law_1144 : decode cL_law 1144 = .ok (.iload_n 3, 1) := dd_get dm_L_law_12 46 rfl
theorem dL_law_1145 : decode cL_law 1145 = .ok (.iconst 2, 1) := dd_get dm_L_law_12 47 rfl
theorem dL_law_1146 : decode cL_law 1146 = .ok (.iadd, 1) := dd_get dm_L_law_12 48 rfl
theorem dL_law_1147 : decode cL_law 1147 = .ok (.iaload, 1) := dd_get dm_L_law_12 49 rfl
theorem dL_law_1148 : decode cL_law 1148 = .ok (.aload_n 0, 1) := dd_get dm_L_law_12 50 rfl
theorem dL_law_1149 : decode cL_law 1149 = .ok (.iload_n 3, 1) := dd_get dm_L_law_12 51 rfl
theorem dL_law_1150 : decode cL_law 1150 = .ok (.iconst 3, 1) := dd_get dm_L_law_12 52 rfl
theorem dL_law_1151 : decode cL_law 1151 = .ok (.iadd, 1) := dd_get dm_L_law_12 53 rfl
theorem dL_law_1152 : decode cL_law 1152 = .ok (.iaload, 1) := dd_get dm_L_law_12 54 rfl
theorem dL_law_1153 : decode cL_law 1153 = .ok (.invokevirtual 148, 3) := dd_get dm_L_law_12 55 rfl
theorem dL_law_1156 : decode cL_law 1156 = .ok (.if_icmp .eq 137, 3) := dd_get dm_L_law_12 56 rfl
theorem dL_law_1159 : decode cL_law 1159 = .ok (.iconst 0, 1) := dd_get dm_L_law_12 57 rfl
theorem dL_law_1160 : decode cL_law 1160 = .ok (.ireturn, 1) := dd_get dm_L_law_12 58 rfl
theorem dL_law_1161 : decode cL_law 1161 = .ok (.aload_n 1, 1) := dd_get dm_L_law_12 59 rfl
theorem dm_L_law_13 : (([(1162, .aload_n 0, 1), (1163, .iload_n 3, 1), (1164, .iconst 1, 1), (1165, .iadd, 1), (1166, .iaload, 1), (1167, .aload_n 0, 1), (1168, .iload_n 3, 1), (1169, .iconst 2, 1), (1170, .iadd, 1), (1171, .iaload, 1), (1172, .aload_n 0, 1), (1173, .iload_n 3, 1), (1174, .iconst 3, 1), (1175, .iadd, 1), (1176, .iaload, 1), (1177, .aload_n 0, 1), (1178, .iload_n 3, 1), (1179, .iconst 4, 1), (1180, .iadd, 1), (1181, .iaload, 1), (1182, .invokevirtual 149, 3), (1185, .aload_n 2, 1), (1186, .aload_n 0, 1), (1187, .iload_n 3, 1), (1188, .iconst 1, 1), (1189, .iadd, 1), (1190, .iaload, 1), (1191, .aload_n 0, 1), (1192, .iload_n 3, 1), (1193, .iconst 2, 1), (1194, .iadd, 1), (1195, .iaload, 1), (1196, .aload_n 0, 1), (1197, .iload_n 3, 1), (1198, .iconst 3, 1), (1199, .iadd, 1), (1200, .iaload, 1), (1201, .aload_n 0, 1), (1202, .iload_n 3, 1), (1203, .iconst 4, 1), (1204, .iadd, 1), (1205, .iaload, 1), (1206, .invokevirtual 152, 3), (1209, .if_icmp .eq 84, 3), (1212, .iconst 0, 1), (1213, .ireturn, 1), (1214, .aload_n 1, 1), (1215, .aload_n 0, 1), (1216, .iload_n 3, 1), (1217, .iconst 1, 1), (1218, .iadd, 1), (1219, .iaload, 1), (1220, .invokevirtual 153, 3), (1223, .aload_n 2, 1), (1224, .aload_n 0, 1), (1225, .iload_n 3, 1), (1226, .iconst 1, 1), (1227, .iadd, 1), (1228, .iaload, 1), (1229, .invokevirtual 156, 3)] : List (Nat × Instr × Nat)).all fun q => decide (decode cL_law q.1 = .ok (q.2.1, q.2.2))) = true := by decide +kernel
theorem dL_law_1162 : decode cL_law 1162 = .ok (.aload_n 0, 1) := dd_get dm_L_law_13 0 rfl
theorem dL_law_1163 : decode cL_law 1163 = .ok (.iload_n 3, 1) := dd_get dm_L_law_13 1 rfl
theorem dL_law_1164 : decode cL_law 1164 = .ok (.iconst 1, 1) := dd_get dm_L_law_13 2 rfl
theorem dL_law_1165 : decode cL_law 1165 = .ok (.iadd, 1) := dd_get dm_L_law_13 3 rfl
theorem dL_law_1166 : decode cL_law 1166 = .ok (.iaload, 1) := dd_get dm_L_law_13 4 rfl
theorem dL_law_1167 : decode cL_law 1167 = .ok (.aload_n 0, 1) := dd_get dm_L_law_13 5 rfl
theorem dL_law_1168 : decode cL_law 1168 = .ok (.iload_n 3, 1) := dd_get dm_L_law_13 6 rfl
theorem dL_law_1169 : decode cL_law 1169 = .ok (.iconst 2, 1) := dd_get dm_L_law_13 7 rfl
theorem dL_law_1170 : decode cL_law 1170 = .ok (.iadd, 1) := dd_get dm_L_law_13 8 rfl
theorem dL_law_1171 : decode cL_law 1171 = .ok (.iaload, 1) := dd_get dm_L_law_13 9 rfl
theorem dL_law_1172 : decode cL_law 1172 = .ok (.aload_n 0, 1) := dd_get dm_L_law_13 10 rfl
theorem dL_law_1173 : decode cL_law 1173 = .ok (.iload_n 3, 1) := dd_get dm_L_law_13 11 rfl
theorem dL_law_1174 : decode cL_law 1174 = .ok (.iconst 3, 1) := dd_get dm_L_law_13 12 rfl
theorem dL_law_1175 : decode cL_law 1175 = .ok (.iadd, 1) := dd_get dm_L_law_13 13 rfl
theorem dL_law_1176 : decode cL_law 1176 = .ok (.iaload, 1) := dd_get dm_L_law_13 14 rfl
theorem dL_law_1177 : decode cL_law 1177 = .ok (.aload_n 0, 1) := dd_get dm_L_law_13 15 rfl
theorem dL_law_1178 : decode cL_law 1178 = .ok (.iload_n 3, 1) := dd_get dm_L_law_13 16 rfl
theorem dL_law_1179 : decode cL_law 1179 = .ok (.iconst 4, 1) := dd_get dm_L_law_13 17 rfl
theorem dL_law_1180 : decode cL_law 1180 = .ok (.iadd, 1) := dd_get dm_L_law_13 18 rfl
theorem dL_law_1181 : decode cL_law 1181 = .ok (.iaload, 1) := dd_get dm_L_law_13 19 rfl
theorem dL_law_1182 : decode cL_law 1182 = .ok (.invokevirtual 149, 3) := dd_get dm_L_law_13 20 rfl
theorem dL_law_1185 : decode cL_law 1185 = .ok (.aload_n 2, 1) := dd_get dm_L_law_13 21 rfl
theorem dL_law_1186 : decode cL_law 1186 = .ok (.aload_n 0, 1) := dd_get dm_L_law_13 22 rfl
theorem dL_law_1187 : decode cL_law 1187 = .ok (.iload_n 3, 1) := dd_get dm_L_law_13 23 rfl
theorem dL_law_1188 : decode cL_law 1188 = .ok (.iconst 1, 1) := dd_get dm_L_law_13 24 rfl
theorem dL_law_1189 : decode cL_law 1189 = .ok (.iadd, 1) := dd_get dm_L_law_13 25 rfl
theorem dL_law_1190 : decode cL_law 1190 = .ok (.iaload, 1) := dd_get dm_L_law_13 26 rfl
theorem dL_law_1191 : decode cL_law 1191 = .ok (.aload_n 0, 1) := dd_get dm_L_law_13 27 rfl
theorem dL_law_1192 : decode cL_law 1192 = .ok (.iload_n 3, 1) := dd_get dm_L_law_13 28 rfl
theorem dL_law_1193 : decode cL_law 1193 = .ok (.iconst 2, 1) := dd_get dm_L_law_13 29 rfl
theorem dL_law_1194 : decode cL_law 1194 = .ok (.iadd, 1) := dd_get dm_L_law_13 30 rfl
theorem dL_law_1195 : decode cL_law 1195 = .ok (.iaload, 1) := dd_get dm_L_law_13 31 rfl
theorem dL_law_1196 : decode cL_law 1196 = .ok (.aload_n 0, 1) := dd_get dm_L_law_13 32 rfl
theorem dL_law_1197 : decode cL_law 1197 = .ok (.iload_n 3, 1) := dd_get dm_L_law_13 33 rfl
theorem dL_law_1198 : decode cL_law 1198 = .ok (.iconst 3, 1) := dd_get dm_L_law_13 34 rfl
theorem dL_law_1199 : decode cL_law 1199 = .ok (.iadd, 1) := dd_get dm_L_law_13 35 rfl
theorem dL_law_1200 : decode cL_law 1200 = .ok (.iaload, 1) := dd_get dm_L_law_13 36 rfl
theorem dL_law_1201 : decode cL_law 1201 = .ok (.aload_n 0, 1) := dd_get dm_L_law_13 37 rfl
theorem dL_law_1202 : decode cL_law 1202 = .ok (.iload_n 3, 1) := dd_get dm_L_law_13 38 rfl
theorem dL_law_1203 : decode cL_law 1203 = .ok (.iconst 4, 1) := dd_get dm_L_law_13 39 rfl
theorem dL_law_1204 : decode cL_law 1204 = .ok (.iadd, 1) := dd_get dm_L_law_13 40 rfl
theorem dL_law_1205 : decode cL_law 1205 = .ok (.iaload, 1) := dd_get dm_L_law_13 41 rfl
theorem dL_law_1206 : decode cL_law 1206 = .ok (.invokevirtual 152, 3) := dd_get dm_L_law_13 42 rfl
theorem dL_law_1209 : decode cL_law 1209 = .ok (.if_icmp .eq 84, 3) := dd_get dm_L_law_13 43 rfl
theorem dL_law_1212 : decode cL_law 1212 = .ok (.iconst 0, 1) := dd_get dm_L_law_13 44 rfl
theorem dL_law_1213 : decode cL_law 1213 = .ok (.ireturn, 1) := dd_get dm_L_law_13 45 rfl
theorem dL_law_1214 : decode cL_law 1214 = .ok (.aload_n 1, 1) := dd_get dm_L_law_13 46 rfl
theorem dL_law_1215 : decode cL_law 1215 = .ok (.aload_n 0, 1) := dd_get dm_L_law_13 47 rfl
theorem dL_law_1216 : decode cL_law 1216 = .ok (.iload_n 3, 1) := dd_get dm_L_law_13 48 rfl
theorem dL_law_1217 : decode cL_law 1217 = .ok (.iconst 1, 1) := dd_get dm_L_law_13 49 rfl
theorem dL_law_1218 : decode cL_law 1218 = .ok (.iadd, 1) := dd_get dm_L_law_13 50 rfl
theorem dL_law_1219 : decode cL_law 1219 = .ok (.iaload, 1) := dd_get dm_L_law_13 51 rfl
theorem dL_law_1220 : decode cL_law 1220 = .ok (.invokevirtual 153, 3) := dd_get dm_L_law_13 52 rfl
theorem dL_law_1223 : decode cL_law 1223 = .ok (.aload_n 2, 1) := dd_get dm_L_law_13 53 rfl
theorem dL_law_1224 : decode cL_law 1224 = .ok (.aload_n 0, 1) := dd_get dm_L_law_13 54 rfl
theorem dL_law_1225 : decode cL_law 1225 = .ok (.iload_n 3, 1) := dd_get dm_L_law_13 55 rfl
theorem dL_law_1226 : decode cL_law 1226 = .ok (.iconst 1, 1) := dd_get dm_L_law_13 56 rfl
theorem dL_law_1227 : decode cL_law 1227 = .ok (.iadd, 1) := dd_get dm_L_law_13 57 rfl
theorem dL_law_1228 : decode cL_law 1228 = .ok (.iaload, 1) := dd_get dm_L_law_13 58 rfl
theorem dL_law_1229 : decode cL_law 1229 = .ok (.invokevirtual 156, 3) := dd_get dm_L_law_13 59 rfl
theorem dm_L_law_14 : (([(1232, .if_icmp .eq 61, 3), (1235, .iconst 0, 1), (1236, .ireturn, 1), (1237, .aload_n 1, 1), (1238, .aload_n 0, 1), (1239, .iload_n 3, 1), (1240, .iconst 1, 1), (1241, .iadd, 1), (1242, .iaload, 1), (1243, .aload_n 0, 1), (1244, .iload_n 3, 1), (1245, .iconst 2, 1), (1246, .iadd, 1), (1247, .iaload, 1), (1248, .invokevirtual 157, 3), (1251, .aload_n 2, 1), (1252, .aload_n 0, 1), (1253, .iload_n 3, 1), (1254, .iconst 1, 1), (1255, .iadd, 1), (1256, .iaload, 1), (1257, .aload_n 0, 1), (1258, .iload_n 3, 1), (1259, .iconst 2, 1), (1260, .iadd, 1), (1261, .iaload, 1), (1262, .invokevirtual 160, 3), (1265, .if_icmp .eq 28, 3), (1268, .iconst 0, 1), (1269, .ireturn, 1), (1270, .aload_n 1, 1), (1271, .aload_n 0, 1), (1272, .iload_n 3, 1), (1273, .iconst 1, 1), (1274, .iadd, 1), (1275, .iaload, 1), (1276, .invokevirtual 161, 3), (1279, .aload_n 2, 1), (1280, .aload_n 0, 1), (1281, .iload_n 3, 1), (1282, .iconst 1, 1), (1283, .iadd, 1), (1284, .iaload, 1), (1285, .invokevirtual 164, 3), (1288, .if_icmp .eq 5, 3), (1291, .iconst 0, 1), (1292, .ireturn, 1), (1293, .iinc 3 5, 3), (1296, .goto (-1278), 3), (1299, .iconst 1, 1), (1300, .ireturn, 1)] : List (Nat × Instr × Nat)).all fun q => decide (decode cL_law q.1 = .ok (q.2.1, q.2.2))) = true := by decide +kernel
theorem dL_law_1232 : decode cL_law 1232 = .ok (.if_icmp .eq 61, 3) := dd_get dm_L_law_14 0 rfl
theorem dL_law_1235 : decode cL_law 1235 = .ok (.iconst 0, 1) := dd_get dm_L_law_14 1 rfl
theorem dL_law_1236 : decode cL_law 1236 = .ok (.ireturn, 1) := dd_get dm_L_law_14 2 rfl
theorem dL_law_1237 : decode cL_law 1237 = .ok (.aload_n 1, 1) := dd_get dm_L_law_14 3 rfl
theorem dL_law_1238 : decode cL_law 1238 = .ok (.aload_n 0, 1) := dd_get dm_L_law_14 4 rfl
theorem dL_law_1239 : decode cL_law 1239 = .ok (.iload_n 3, 1) := dd_get dm_L_law_14 5 rfl
theorem dL_law_1240 : decode cL_law 1240 = .ok (.iconst 1, 1) := dd_get dm_L_law_14 6 rfl
theorem dL_law_1241 : decode cL_law 1241 = .ok (.iadd, 1) := dd_get dm_L_law_14 7 rfl
theorem dL_law_1242 : decode cL_law 1242 = .ok (.iaload, 1) := dd_get dm_L_law_14 8 rfl
theorem dL_law_1243 : decode cL_law 1243 = .ok (.aload_n 0, 1) := dd_get dm_L_law_14 9 rfl
theorem dL_law_1244 : decode cL_law 1244 = .ok (.iload_n 3, 1) := dd_get dm_L_law_14 10 rfl
theorem dL_law_1245 : decode cL_law 1245 = .ok (.iconst 2, 1) := dd_get dm_L_law_14 11 rfl
theorem dL_law_1246 : decode cL_law 1246 = .ok (.iadd, 1) := dd_get dm_L_law_14 12 rfl
theorem dL_law_1247 : decode cL_law 1247 = .ok (.iaload, 1) := dd_get dm_L_law_14 13 rfl
theorem dL_law_1248 : decode cL_law 1248 = .ok (.invokevirtual 157, 3) := dd_get dm_L_law_14 14 rfl
theorem dL_law_1251 : decode cL_law 1251 = .ok (.aload_n 2, 1) := dd_get dm_L_law_14 15 rfl
theorem dL_law_1252 : decode cL_law 1252 = .ok (.aload_n 0, 1) := dd_get dm_L_law_14 16 rfl
theorem dL_law_1253 : decode cL_law 1253 = .ok (.iload_n 3, 1) := dd_get dm_L_law_14 17 rfl
theorem dL_law_1254 : decode cL_law 1254 = .ok (.iconst 1, 1) := dd_get dm_L_law_14 18 rfl
theorem dL_law_1255 : decode cL_law 1255 = .ok (.iadd, 1) := dd_get dm_L_law_14 19 rfl
theorem dL_law_1256 : decode cL_law 1256 = .ok (.iaload, 1) := dd_get dm_L_law_14 20 rfl
theorem dL_law_1257 : decode cL_law 1257 = .ok (.aload_n 0, 1) := dd_get dm_L_law_14 21 rfl
theorem dL_law_1258 : decode cL_law 1258 = .ok (.iload_n 3, 1) := dd_get dm_L_law_14 22 rfl
theorem dL_law_1259 : decode cL_law 1259 = .ok (.iconst 2, 1) := dd_get dm_L_law_14 23 rfl
theorem dL_law_1260 : decode cL_law 1260 = .ok (.iadd, 1) := dd_get dm_L_law_14 24 rfl
theorem dL_law_1261 : decode cL_law 1261 = .ok (.iaload, 1) := dd_get dm_L_law_14 25 rfl
theorem dL_law_1262 : decode cL_law 1262 = .ok (.invokevirtual 160, 3) := dd_get dm_L_law_14 26 rfl
theorem dL_law_1265 : decode cL_law 1265 = .ok (.if_icmp .eq 28, 3) := dd_get dm_L_law_14 27 rfl
theorem dL_law_1268 : decode cL_law 1268 = .ok (.iconst 0, 1) := dd_get dm_L_law_14 28 rfl
theorem dL_law_1269 : decode cL_law 1269 = .ok (.ireturn, 1) := dd_get dm_L_law_14 29 rfl
theorem dL_law_1270 : decode cL_law 1270 = .ok (.aload_n 1, 1) := dd_get dm_L_law_14 30 rfl
theorem dL_law_1271 : decode cL_law 1271 = .ok (.aload_n 0, 1) := dd_get dm_L_law_14 31 rfl
theorem dL_law_1272 : decode cL_law 1272 = .ok (.iload_n 3, 1) := dd_get dm_L_law_14 32 rfl
theorem dL_law_1273 : decode cL_law 1273 = .ok (.iconst 1, 1) := dd_get dm_L_law_14 33 rfl
theorem dL_law_1274 : decode cL_law 1274 = .ok (.iadd, 1) := dd_get dm_L_law_14 34 rfl
theorem dL_law_1275 : decode cL_law 1275 = .ok (.iaload, 1) := dd_get dm_L_law_14 35 rfl
theorem dL_law_1276 : decode cL_law 1276 = .ok (.invokevirtual 161, 3) := dd_get dm_L_law_14 36 rfl
theorem dL_law_1279 : decode cL_law 1279 = .ok (.aload_n 2, 1) := dd_get dm_L_law_14 37 rfl
theorem dL_law_1280 : decode cL_law 1280 = .ok (.aload_n 0, 1) := dd_get dm_L_law_14 38 rfl
theorem dL_law_1281 : decode cL_law 1281 = .ok (.iload_n 3, 1) := dd_get dm_L_law_14 39 rfl
theorem dL_law_1282 : decode cL_law 1282 = .ok (.iconst 1, 1) := dd_get dm_L_law_14 40 rfl
theorem dL_law_1283 : decode cL_law 1283 = .ok (.iadd, 1) := dd_get dm_L_law_14 41 rfl
theorem dL_law_1284 : decode cL_law 1284 = .ok (.iaload, 1) := dd_get dm_L_law_14 42 rfl
theorem dL_law_1285 : decode cL_law 1285 = .ok (.invokevirtual 164, 3) := dd_get dm_L_law_14 43 rfl
theorem dL_law_1288 : decode cL_law 1288 = .ok (.if_icmp .eq 5, 3) := dd_get dm_L_law_14 44 rfl
theorem dL_law_1291 : decode cL_law 1291 = .ok (.iconst 0, 1) := dd_get dm_L_law_14 45 rfl
theorem dL_law_1292 : decode cL_law 1292 = .ok (.ireturn, 1) := dd_get dm_L_law_14 46 rfl
theorem dL_law_1293 : decode cL_law 1293 = .ok (.iinc 3 5, 3) := dd_get dm_L_law_14 47 rfl
theorem dL_law_1296 : decode cL_law 1296 = .ok (.goto (-1278), 3) := dd_get dm_L_law_14 48 rfl
theorem dL_law_1299 : decode cL_law 1299 = .ok (.iconst 1, 1) := dd_get dm_L_law_14 49 rfl
theorem dL_law_1300 : decode cL_law 1300 = .ok (.ireturn, 1) := dd_get dm_L_law_14 50 rfl
