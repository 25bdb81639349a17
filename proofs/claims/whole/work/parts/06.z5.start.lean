/-! THE CLAIM OUT OF ONE WALK OF THE LAW'S BODY. Your part is whole_start (and what it stands on); all else here is the same for every law, but numbers. -/
def R_law : String := "LampRoundLaw"
def lw_P (b : Addr) (xs : List Int32) (args : Array Value) (s : State) : Prop := args = #[.ref b] ∧ s.IntsAt b xs ∧ xs.length ≤ 2560 ∧ (Jvm.Cond.and given_1 narrow_1).before args s = true
def lw_Q (_ : Array Value) (s : State) (o : Outcome) (t : State) : Prop := o = .returned (some (.int 1)) ∧ Framed s o t [] 600000 7302250
def lw_Z (below : List Frame) (a : Array Value) (s : State) : State → Prop := fun t => ∃ o, t.status = .running ∧ Ended t below o ∧ lw_Q a s o t
/-- the law's own end, with 1 on the stack, nothing written that was there before, its room as the claim has it -/
theorem lw_ret {p : Program} {l : Launch} {e : Env} {s : State} {m : MethodId} {below : List Frame} {meth : Method} {c : Code} {b : Nat} (hx : p.tables.exec = Jvm.exec) (hb : c.code = code) (hr : meth.sig.returnType = ret) (hlocks : meth.locks = false) {pc : Nat} {H : Heap} {ls : Array Slot} (hdg : decode code pc = .ok (.ireturn, 1)) : W p l e room_1 s m #[Value.ref b] below meth c H [] 600000 7302250 (lw_Z below #[Value.ref b] s) (F0 m pc ls [.int 1]) := by
  intro T hT X
  obtain ⟨fs, hret, hrun, hended, hW, hframe⟩ := X.leave (v := some (.int 1)) (hlocks := hlocks) (fun h => by rw [hr] at h; cases h)
  have hmeth' : T.vm.method? m = some meth := X.method'
  refine ⟨T.setFrames fs, ?_, .returned (some (.int 1)), hrun, hended, rfl, ⟨_, rfl⟩, hW, hframe⟩
  jvm_step X.here [X.here.top, hx, hb, hdg, hmeth', hr, ret, narrow_b1]
  (try refine ⟨rfl, ?_⟩); (try refine ⟨rfl, ?_⟩)
  first | (intro acts; rw [hret _ acts rfl rfl rfl]) | rw [hret _ _ rfl rfl rfl]
  exact Steps.refl _
/-- what holds at the law's entry: the machine, the code, the tables' words (any of lw_tbl by 'hts w (by decide +kernel)'), the script of L ints xs at the cell b, what the Statement gives of the start (any of its parts by flat_of_before) -/
def lw_At (p : Program) (s : State) (m : MethodId) (meth : Method) (c : Code) (b L : Nat) (xs : Nat → Int32) : Prop :=
  p.tables.exec = Jvm.exec ∧ c.code = code ∧ meth.sig.returnType = ret ∧ c.maxLocals = 4 ∧ s.vm.findClass R_law = some m.cls ∧ (∀ w ∈ lw_tbl, w.before #[Value.ref b] s = true) ∧ va_X b L xs s s.heap ∧ b < s.heap.size ∧ meth.locks = false ∧ (Jvm.Cond.and given_1 narrow_1).before #[Value.ref b] s = true

def gL (y : Cy) (a : Nat) (u : (Nat → Nat) × (Nat → (Nat → Nat) × (Nat → Nat) × (Nat → Int32))) : Gx := (y.1, fun k => if k < 76 then ([a, u.1 0, u.1 1, u.1 2, u.1 3, u.1 4, u.1 5, u.1 6, u.1 7, u.1 8, u.1 9, 0, (u.2 0).1 0, (u.2 0).1 1, (u.2 0).1 2, (u.2 1).1 0, (u.2 1).1 1, (u.2 1).1 2, (u.2 1).1 3, (u.2 1).1 4, (u.2 2).1 0, (u.2 2).1 1, (u.2 2).1 2, (u.2 2).1 3, (u.2 2).1 4, (u.2 2).1 5, (u.2 2).1 6, (u.2 3).1 0, (u.2 4).1 0, (u.2 4).1 1, (u.2 4).1 2, (u.2 4).1 3, (u.2 4).1 4, (u.2 4).1 5, (u.2 5).1 0, (u.2 5).1 1, (u.2 5).1 2, (u.2 5).1 3, (u.2 6).1 0, (u.2 6).1 1, (u.2 6).1 2, (u.2 8).1 0, (u.2 8).1 1, (u.2 8).1 2, (u.2 9).1 0, (u.2 9).1 1, (u.2 9).1 2, 0, 0, 0, 0, 0, 0, 0, 0, 0, 0, 0, 0, 0, 0, 0, 0, 0, 0, 0, 0, 0, 0, 0, 0, 0, 0, 0, 0, 0] : List Nat).getD k 0 else if k < 200 then (u.2 1).2.1 (k - 100) else if k < 300 then (u.2 2).2.1 (k - 200) else (u.2 0).2.1 (k - 300), y.2)
def X0 (f : Nat → Int32) : ST := ks_sA (ks_sI (fun _ => 0, fun _ => 0, fun _ _ => 0, fun _ _ => 0) 7 2147483647) 14 f
theorem gL_ways (y : Cy) (a : Nat) (u : (Nat → Nat) × (Nat → (Nat → Nat) × (Nat → Nat) × (Nat → Int32))) (i : Nat) (h : i < 40) : (gL y a u).2.1 (i + 100) = (u.2 1).2.1 i := by
  unfold gL
  dsimp only
  rw [if_neg (by omega), if_pos (by omega), Nat.add_sub_cancel]
theorem rL_ways (y : Cy) (a : Nat) (u : (Nat → Nat) × (Nat → (Nat → Nat) × (Nat → Nat) × (Nat → Int32))) (f : Nat → Int32) : wr_ways (gL y a u) (X0 f) = cr_Town y (u.2 1) := by
  unfold wr_ways cr_Town
  refine List.map_congr_left (fun i hi => ?_)
  rw [gL_ways y a u i (List.mem_range.mp hi)]
  have e : (X0 f).2.2.1 (i + 100) = (fun _ => 0 : Nat → Int32) := by show ks_up (fun _ _ => (0 : Int32)) 14 f (i + 100) = _; exact ks_up_ne _ _ (by omega)
  rw [e]
  rfl
theorem oL_ways (y : Cy) (a : Nat) (u : (Nat → Nat) × (Nat → (Nat → Nat) × (Nat → Nat) × (Nat → Int32))) : (fun i => if i < 40 then some ((gL y a u).2.1 (i + 100)) else none) = fun i => if i < 40 then some ((u.2 1).2.1 i) else none := funext (fun i => by
  by_cases h : i < 40
  · rw [if_pos h, if_pos h, gL_ways y a u i h]
  · rw [if_neg h, if_neg h])
theorem gL_gaps (y : Cy) (a : Nat) (u : (Nat → Nat) × (Nat → (Nat → Nat) × (Nat → Nat) × (Nat → Int32))) (i : Nat) (h : i < 12) : (gL y a u).2.1 (i + 200) = (u.2 2).2.1 i := by
  unfold gL
  dsimp only
  rw [if_neg (by omega), if_neg (by omega), if_pos (by omega), Nat.add_sub_cancel]
theorem rL_gaps (y : Cy) (a : Nat) (u : (Nat → Nat) × (Nat → (Nat → Nat) × (Nat → Nat) × (Nat → Int32))) (f : Nat → Int32) : wr_gaps (gL y a u) (X0 f) = cr_Lamps y (u.2 2) := by
  unfold wr_gaps cr_Lamps
  refine List.map_congr_left (fun i hi => ?_)
  rw [gL_gaps y a u i (List.mem_range.mp hi)]
  have e : (X0 f).2.2.1 (i + 200) = (fun _ => 0 : Nat → Int32) := by show ks_up (fun _ _ => (0 : Int32)) 14 f (i + 200) = _; exact ks_up_ne _ _ (by omega)
  rw [e]
  rfl
theorem oL_gaps (y : Cy) (a : Nat) (u : (Nat → Nat) × (Nat → (Nat → Nat) × (Nat → Nat) × (Nat → Int32))) : (fun i => if i < 12 then some ((gL y a u).2.1 (i + 200)) else none) = fun i => if i < 12 then some ((u.2 2).2.1 i) else none := funext (fun i => by
  by_cases h : i < 12
  · rw [if_pos h, if_pos h, gL_gaps y a u i h]
  · rw [if_neg h, if_neg h])
theorem gL_cells (y : Cy) (a : Nat) (u : (Nat → Nat) × (Nat → (Nat → Nat) × (Nat → Nat) × (Nat → Int32))) (i : Nat) (h : i < 4) : (gL y a u).2.1 (i + 300) = (u.2 0).2.1 i := by
  unfold gL
  dsimp only
  rw [if_neg (by omega), if_neg (by omega), if_neg (by omega), Nat.add_sub_cancel]
theorem rL_cells (y : Cy) (a : Nat) (u : (Nat → Nat) × (Nat → (Nat → Nat) × (Nat → Nat) × (Nat → Int32))) (f : Nat → Int32) : wr_cells (gL y a u) (X0 f) = cr_Rows y (u.2 0) := by
  unfold wr_cells cr_Rows
  refine List.map_congr_left (fun i hi => ?_)
  rw [gL_cells y a u i (List.mem_range.mp hi)]
  have e : (X0 f).2.2.2 (i + 300) = (fun _ => 0 : Nat → Int64) := rfl
  rw [e]
  rfl
theorem oL_cells (y : Cy) (a : Nat) (u : (Nat → Nat) × (Nat → (Nat → Nat) × (Nat → Nat) × (Nat → Int32))) : (fun i => if i < 4 then some ((gL y a u).2.1 (i + 300)) else none) = fun i => if i < 4 then some ((u.2 0).2.1 i) else none := funext (fun i => by
  by_cases h : i < 4
  · rw [if_pos h, if_pos h, gL_cells y a u i h]
  · rw [if_neg h, if_neg h])
theorem perm_pl {α : Type} (l l' : List α) (is : List Nat) (h1 : is.Perm (List.range l.length)) (h2 : is.map (fun i => l[i]?) = l'.map some) : l'.Perm l := by
  have e1 : (List.range l.length).map (fun i => l[i]?) = l.map some := by
    refine List.ext_getElem? (fun i => ?_)
    rw [List.getElem?_map, List.getElem?_map]
    by_cases h : i < l.length
    · rw [List.getElem?_range h, List.getElem?_eq_getElem h]
      simp [h]
    · rw [List.getElem?_eq_none (by rw [List.length_range]; omega), List.getElem?_eq_none (by omega)]
      rfl
  have h3 : (l'.map some).Perm (l.map some) := by
    rw [← h2, ← e1]
    exact h1.map _
  have h4 := h3.filterMap (fun x : Option α => x)
  rw [List.filterMap_map, List.filterMap_map] at h4
  have e2 : ∀ k : List α, k.filterMap ((fun x : Option α => x) ∘ some) = k := fun k => List.filterMap_some
  rw [e2, e2] at h4
  exact h4
theorem cp5 (P rL T rT R rR : va_W) : (P ++ (rL ++ (T ++ (rT ++ (R ++ (rR ++ [])))))).Perm ((P ++ (T ++ R)) ++ (rT ++ (rL ++ rR))) := by
  rw [List.append_nil]
  simp only [List.append_assoc]
  refine List.Perm.append_left P ?_
  refine (List.perm_append_comm_assoc rL T _).trans (List.Perm.append_left T ?_)
  refine ((List.perm_append_comm_assoc rT R rR).append_left rL).trans ?_
  refine (List.perm_append_comm_assoc rL R _).trans (List.Perm.append_left R ?_)
  exact List.perm_append_comm_assoc rL rT rR
theorem pl46 : ([0, 45, 41, 35, 27, 25, 18, 13, 9, 8, 4, 44, 43, 42, 40, 39, 38, 37, 36, 34, 33, 32, 31, 30, 29, 28, 26, 24, 23, 22, 21, 20, 19, 17, 16, 15, 14, 12, 11, 10, 7, 6, 5, 3, 2, 1] : List Nat).Perm (List.range 46) := by decide +kernel
set_option maxHeartbeats 8000000 in
set_option maxRecDepth 100000 in
theorem lx_perm (y : Cy) (a : Nat) (u : (Nat → Nat) × (Nat → (Nat → Nat) × (Nat → Nat) × (Nat → Int32))) : (ce_LR y a u []).Perm (wxl (gL y a u) (X0 (u.2 0).2.2)) := by
  have e0 : ce_LR y a u [] = ([(a, .inr (9, [.ref (u.1 0), .ref (u.1 1), .ref (u.1 2), .ref (u.1 3), .ref (u.1 4), .ref (u.1 5), .ref (u.1 6), .ref (u.1 7), .ref (u.1 8), .ref (u.1 9)]))] ++ (ce_Lines y (u.1 9) (u.2 9) ++ (ce_Lines y (u.1 8) (u.2 8) ++ (ce_Judge y (u.1 7) (u.1 2) (u.1 5) (u.1 6) (u.2 7) ++ (ce_Tree y (u.1 6) (u.1 2) (u.1 5) (u.2 6) ++ (ce_Case y (u.1 5) (u.2 5) ++ (ce_Search y (u.1 4) (u.1 2) (u.2 4) ++ (ce_Told y (u.1 3) (u.1 2) (u.2 3) ++ (ce_Lamps y (u.1 2) (u.1 1) (u.2 2)))))))))) ++ (cr_Lamps y (u.2 2) ++ (ce_Town y (u.1 1) (u.2 1) ++ (cr_Town y (u.2 1) ++ (ce_Rows y (u.1 0) (u.2 0) ++ (cr_Rows y (u.2 0) ++ []))))) := rfl
  rw [e0]
  refine (cp5 _ _ _ _ _ _).trans ?_
  have er : wrr (gL y a u) (X0 (u.2 0).2.2) = cr_Town y (u.2 1) ++ (cr_Lamps y (u.2 2) ++ cr_Rows y (u.2 0)) := by
    unfold wrr
    rw [rL_ways, rL_gaps, rL_cells]
  unfold wxl
  rw [er, ← List.append_assoc (wx1 _ _)]
  refine List.Perm.append_right _ (List.Perm.symm (perm_pl _ _ [0, 45, 41, 35, 27, 25, 18, 13, 9, 8, 4, 44, 43, 42, 40, 39, 38, 37, 36, 34, 33, 32, 31, 30, 29, 28, 26, 24, 23, 22, 21, 20, 19, 17, 16, 15, 14, 12, 11, 10, 7, 6, 5, 3, 2, 1] pl46 ?_))
  unfold wx2
  rw [oL_ways, oL_gaps, oL_cells]
  rfl
theorem wm_1_1 : Cond.instantiable RX9 10 ∈ wAll := inr_1 (List.mem_of_getElem? (i := 1) rfl)
theorem wm_1_4 : Cond.instantiable RX10 36 ∈ wAll := inr_1 (List.mem_of_getElem? (i := 4) rfl)
theorem wm_1_0 : Cond.classLink RL 7 RX9 ∈ wAll := inr_1 (List.mem_of_getElem? (i := 0) rfl)
theorem wm_1_3 : Cond.classLink RL 10 RX10 ∈ wAll := inr_1 (List.mem_of_getElem? (i := 3) rfl)
theorem wm_1_7 : Cond.methodLink RL 9 yX9_init ∈ wAll := inr_1 (List.mem_of_getElem? (i := 7) rfl)
theorem wm_1_8 : Cond.instanceMethod yX9_init ∈ wAll := inr_1 (List.mem_of_getElem? (i := 8) rfl)
theorem wm_1_9 : Cond.code yX9_init cX9_init 1 none ∈ wAll := inr_1 (List.mem_of_getElem? (i := 9) rfl)
theorem hqS_X9_init : yX9_init.cls ≠ "java/lang/invoke/MethodHandle" ∧ yX9_init.cls ≠ "java/lang/invoke/VarHandle" ∧ (parseMethodDescriptor yX9_init.desc).map (fun d => d.parameters.length) = some 0 := by decide +kernel
theorem wm_7_6 : Cond.methodLink RL 12 yX10_init ∈ wAll := inr_7 (List.mem_of_getElem? (i := 6) rfl)
theorem wm_7_7 : Cond.instanceMethod yX10_init ∈ wAll := inr_7 (List.mem_of_getElem? (i := 7) rfl)
theorem wm_7_8 : Cond.code yX10_init cX10_init 2 none ∈ wAll := inr_7 (List.mem_of_getElem? (i := 8) rfl)
theorem hqS_X10_init : yX10_init.cls ≠ "java/lang/invoke/MethodHandle" ∧ yX10_init.cls ≠ "java/lang/invoke/VarHandle" ∧ (parseMethodDescriptor yX10_init.desc).map (fun d => d.parameters.length) = some 0 := by decide +kernel
section JC5
variable {κ : Cx} {y : Cy} {own : String} {cc : ByteArray} {Ts : List Cond} {nL : Nat} {rm : Room} {ws : va_W} {cells slots : Nat} {lv : List (Nat × Value)} {pc pc' : Nat} {st : List Value}
theorem jc_astore_n {k : Fin 4} {i : Nat} {x : Nat} {lv' : List (Nat × Value)} (hκ : CFc κ y own cc Ts nL rm) (hn : i < nL) (hl0 : (i, Value.ref x) :: lv.filter (fun q => !(q.1 == i) && !(q.1 + 1 == i && q.2.category == 2)) = lv') (hi : (k : Nat) = i) (hd : decode cc pc = .ok (.astore_n k, 1)) (ep : pc + 1 = pc') (h : Jc κ y nL ws cells slots lv' pc' st) : Jc κ y nL ws cells slots lv pc (.ref x :: st) := by
  obtain ⟨p, l, e, R, s, m, args, below, meth, c, c0, s0, Q, A⟩ := κ
  obtain ⟨hx, hb, hml, hown, hts, hK, hNw, hO, hA, rfl⟩ := hκ
  subst ep
  intro H locs ls hP hD hS hl
  exact lv_astore_n hx hb hd hi hl hn hl0 (fun ls' hl' => h H locs ls' hP hD hS hl')
end JC5
theorem arr_of {s : State} {args : Array Value} {ty : FieldType} (h : (Cond.arrayClass ty).before args s = true) (hr : ∀ c : ClassId, va_RA s c ty = (s.vm.findClass ("[" ++ ty.toString) = some c)) : ∃ cA, ArrOfT s cA ty ∧ va_RA s cA ty := by
  obtain ⟨cA, k, comp, h1, h2, h3⟩ := Cond.arrayClass_spec h
  exact ⟨cA, fun n z => ⟨fun q hq => (by cases hq), k, h2, comp, h3⟩, by rw [hr]; exact h1⟩
set_option maxHeartbeats 8000000 in
set_option maxRecDepth 100000 in
/-- THE LAW FROM ITS ENTRY, out of what each call keeps (LStep), a skipped call (hSkip) and the start (h0) -/
theorem whole_open {p : Program} {e : Env} {s : State} {m : MethodId} {below : List Frame} {meth : Method} {c : Code} (l : Launch) {b L : Nat} {xs : Nat → Int32} (hL : L ≤ 2560) (C0 : lw_At p s m meth c b L xs) {Inv : Nat → ST → ST → Prop} (hI : LStep Inv) (hSkip : ∀ (k : Nat) (X M : ST), k < 512 → Inv k X M → Inv (k + 1) X M) (h0 : ∀ f : Nat → Int32, (∀ i, i < 4 → f i = -1) → wp_m_init ((fun _ => 0, fun _ => 0, fun _ _ => 0, fun _ _ => 0) : ST) (fun M => Inv 0 (X0 f) M)) : W p l e room_1 s m #[Value.ref b] below meth c s.heap [] 0 0 (lw_Z below #[Value.ref b] s) (entryFrame m ([Value.ref b] : List Value).toArray 4) := by
  obtain ⟨hx, hb, hr, hml, hown, hts, hX, hbl, hlocks, hgv⟩ := id C0
  obtain ⟨cX0, iX0, kX0⟩ := u_known (C := RX0) (T := TX0) (N := 6) (n := 6) hts (fun w h => wAll_in w (inlX0 w h)) (hts (.instantiable RX0 6) (wAll_in _ wm_2_10))
  obtain ⟨cX1, iX1, kX1⟩ := u_known (C := RX1) (T := TX1) (N := 3) (n := 3) hts (fun w h => wAll_in w (inlX1 w h)) (hts (.instantiable RX1 3) (wAll_in _ wm_2_18))
  obtain ⟨cX2, iX2, kX2⟩ := u_known (C := RX2) (T := TX2) (N := 11) (n := 11) hts (fun w h => wAll_in w (inlX2 w h)) (hts (.instantiable RX2 11) (wAll_in _ wm_1_22))
  obtain ⟨cX3, iX3, kX3⟩ := u_known (C := RX3) (T := TX3) (N := 4) (n := 4) hts (fun w h => wAll_in w (inlX3 w h)) (hts (.instantiable RX3 4) (wAll_in _ wm_2_22))
  obtain ⟨cX4, iX4, kX4⟩ := u_known (C := RX4) (T := TX4) (N := 3) (n := 3) hts (fun w h => wAll_in w (inlX4 w h)) (hts (.instantiable RX4 3) (wAll_in _ wm_1_14))
  obtain ⟨cX5, iX5, kX5⟩ := u_known (C := RX5) (T := TX5) (N := 10) (n := 10) hts (fun w h => wAll_in w (inlX5 w h)) (hts (.instantiable RX5 10) (wAll_in _ wm_2_6))
  obtain ⟨cX6, iX6, kX6⟩ := u_known (C := RX6) (T := TX6) (N := 3) (n := 3) hts (fun w h => wAll_in w (inlX6 w h)) (hts (.instantiable RX6 3) (wAll_in _ wm_2_2))
  obtain ⟨cX7, iX7, kX7⟩ := u_known (C := RX7) (T := TX7) (N := 7) (n := 7) hts (fun w h => wAll_in w (inlX7 w h)) (hts (.instantiable RX7 7) (wAll_in _ wm_1_18))
  obtain ⟨cX8, iX8, kX8⟩ := u_known (C := RX8) (T := TX8) (N := 9) (n := 9) hts (fun w h => wAll_in w (inlX8 w h)) (hts (.instantiable RX8 9) (wAll_in _ wm_2_14))
  obtain ⟨cX9, iX9, kX9⟩ := u_known (C := RX9) (T := TX9) (N := 10) (n := 10) hts (fun w h => wAll_in w (inlX9 w h)) (hts (.instantiable RX9 10) (wAll_in _ wm_1_1))
  obtain ⟨cX10, iX10, kX10⟩ := u_known (C := RX10) (T := TX10) (N := 36) (n := 36) hts (fun w h => wAll_in w (inlX10 w h)) (hts (.instantiable RX10 36) (wAll_in _ wm_1_4))
  obtain ⟨dC, dI, hKc⟩ : ∃ (dC : Nat → ClassId) (dI : Nat → Nat → Nat), ∀ (k : Nat) (q : vw_C), vwCl[k]? = some q → u_Kn s q.1 q.2.1 q.2.2 (dC k) (dI k) := by
    refine ⟨fun k => [cX0, cX1, cX2, cX3, cX4, cX5, cX6, cX7, cX8, cX9, cX10].getD k cX0, fun k => [iX0, iX1, iX2, iX3, iX4, iX5, iX6, iX7, iX8, iX9, iX10].getD k iX0, ?_⟩
    intro k q hq
    match k, hq with
    | 0, hq => cases hq; exact kX0
    | 1, hq => cases hq; exact kX1
    | 2, hq => cases hq; exact kX2
    | 3, hq => cases hq; exact kX3
    | 4, hq => cases hq; exact kX4
    | 5, hq => cases hq; exact kX5
    | 6, hq => cases hq; exact kX6
    | 7, hq => cases hq; exact kX7
    | 8, hq => cases hq; exact kX8
    | 9, hq => cases hq; exact kX9
    | 10, hq => cases hq; exact kX10
    | k + 11, hq => simp [vwCl] at hq
  obtain ⟨cI, aI, rI⟩ := arr_of (hts (.arrayClass .int) (wAll_in _ wm_3_9)) (fun _ => rfl)
  obtain ⟨cJ, aJ, rJ⟩ := arr_of (hts (.arrayClass .long) (wAll_in _ wm_3_7)) (fun _ => rfl)
  obtain ⟨cZ, aZ, rZ⟩ := arr_of (hts (.arrayClass .boolean) (wAll_in _ wm_3_22)) (fun _ => rfl)
  have oI : va_AOA .int s := hts (.arrayOver (.array .int)) (tb_1 (List.mem_of_getElem? (i := 56) rfl))
  have oJ : va_AOA .long s := hts (.arrayOver (.array .long)) (tb_1 (List.mem_of_getElem? (i := 30) rfl))
  obtain ⟨cmI, cII, kII, g1, g2, g3, g4⟩ := Cond.arrayOver_specA oI
  obtain ⟨cmJ, cJJ, kJJ, j1, j2, j3, j4⟩ := Cond.arrayOver_specA oJ
  have aII : ArrOfT s cII (.array .int) := fun n z => ⟨fun q hq => (by cases hq), kII, g2, cmI, g3⟩
  have aJJ : ArrOfT s cJJ (.array .long) := fun n z => ⟨fun q hq => (by cases hq), kJJ, j2, cmJ, j3⟩
  obtain ⟨y, ey⟩ : ∃ y : Cy, y = ((dC, dI), fun k => [cI, cJ, cZ, cII, cJJ].getD k cI) := ⟨_, rfl⟩
  have hK : va_K y.1 vwCl (ctys y) s := by
    rw [ey]
    refine ⟨hKc, fun k q hq => ?_⟩
    match k, hq with
    | 0, hq => cases hq; exact ⟨aI, rI⟩
    | 1, hq => cases hq; exact ⟨aJ, rJ⟩
    | 2, hq => cases hq; exact ⟨aZ, rZ⟩
    | 3, hq => cases hq; exact ⟨aII, g4⟩
    | 4, hq => cases hq; exact ⟨aJJ, j4⟩
    | k + 5, hq => simp [ctys] at hq
  have hN : NW s := ⟨fun q hq => va_Nw.of rfl (hts _ (nwF_in q hq)), fun q hq => va_Nw.of rfl (hts _ (nwM_in q hq))⟩
  have hbA : ¬ (fun q : Nat => s.heap.size ≤ q) b := Nat.not_le.mpr hbl
  obtain ⟨κ, eκ⟩ : ∃ κ : Cx, κ = (p, l, e, room_1, s, m, #[Value.ref b], below, meth, c, 0, 0, lw_Z below #[Value.ref b] s, fun q : Nat => s.heap.size ≤ q) := ⟨_, rfl⟩
  have hκ : CFc κ y RL cL_law wAll 4 room_1 := by
    rw [eκ]
    exact ⟨hx, hb, hml, hown, fun w h => hts w (wAll_in w h), hK, hN, ⟨oI, oJ⟩, fun _ h => h, rfl⟩
  have main : Jc κ y 4 [] 0 0 [(0, .ref b)] 0 [] := by
    refine jc_new (pc' := 3) (cells' := 1) (slots' := 10) (C := RX9) (T := TX9) (N := 10) (ci := 9) (fs := [.null, .null, .null, .null, .null, .null, .null, .null, .null, .null]) hκ inlX9 tyX9 tyX9_ok wm_1_0 wm_1_1 wm_1_2 rfl (fun j hj => by rcases (show j = 0 ∨ j = 1 ∨ j = 2 ∨ j = 3 ∨ j = 4 ∨ j = 5 ∨ j = 6 ∨ j = 7 ∨ j = 8 ∨ j = 9 by omega) with rfl | rfl | rfl | rfl | rfl | rfl | rfl | rfl | rfl | rfl <;> rfl) rfl rfl (Nat.le_of_ble_eq_true rfl) (Nat.le_of_ble_eq_true rfl) dL_law_0 rfl (fun q => ?_)
    refine jc_dup (pc' := 4) hκ rfl dL_law_3 rfl ?_
    refine jc_callI (pc' := 7) (cells' := 102) (slots' := 5264) hκ (k_LR (y := y) (wf := []) (a := q)) rfl rfl rfl wm_1_7 wm_1_8 wm_1_2 (gNa wm_1_9) rfl hqS_X9_init ⟨Nat.le_of_ble_eq_true rfl, Nat.le_of_ble_eq_true rfl⟩ rfl rfl (Nat.le_of_ble_eq_true rfl) rfl rfl (Nat.le_of_ble_eq_true rfl) (Nat.le_of_ble_eq_true rfl) dL_law_4 rfl (fun u hu => ?_)
    refine jc_perm (lx_perm y q u) ?_
    refine jc_astore_n (pc' := 8) (lv' := [(1, .ref q), (0, .ref b)]) hκ (Nat.le_of_ble_eq_true rfl) rfl rfl dL_law_7 rfl ?_
    refine jc_new (pc' := 11) (cells' := 103) (slots' := 5300) (C := RX10) (T := TX10) (N := 36) (ci := 10) (fs := [.int 0, .null, .null, .null, .null, .null, .null, .null, .null, .int 0, .null, .null, .null, .null, .null, .int 0, .null, .int 0, .null, .null, .null, .null, .null, .null, .null, .null, .null, .int 0, .null, .null, .int 0, .null, .null, .null, .null, .int 0]) hκ inlX10 tyX10 tyX10_ok wm_1_3 wm_1_4 wm_1_5 rfl (fun j hj => by rcases (show j = 0 ∨ j = 1 ∨ j = 2 ∨ j = 3 ∨ j = 4 ∨ j = 5 ∨ j = 6 ∨ j = 7 ∨ j = 8 ∨ j = 9 ∨ j = 10 ∨ j = 11 ∨ j = 12 ∨ j = 13 ∨ j = 14 ∨ j = 15 ∨ j = 16 ∨ j = 17 ∨ j = 18 ∨ j = 19 ∨ j = 20 ∨ j = 21 ∨ j = 22 ∨ j = 23 ∨ j = 24 ∨ j = 25 ∨ j = 26 ∨ j = 27 ∨ j = 28 ∨ j = 29 ∨ j = 30 ∨ j = 31 ∨ j = 32 ∨ j = 33 ∨ j = 34 ∨ j = 35 by omega) with rfl | rfl | rfl | rfl | rfl | rfl | rfl | rfl | rfl | rfl | rfl | rfl | rfl | rfl | rfl | rfl | rfl | rfl | rfl | rfl | rfl | rfl | rfl | rfl | rfl | rfl | rfl | rfl | rfl | rfl | rfl | rfl | rfl | rfl | rfl | rfl <;> rfl) rfl rfl (Nat.le_of_ble_eq_true rfl) (Nat.le_of_ble_eq_true rfl) dL_law_8 rfl (fun q2 => ?_)
    refine jc_dup (pc' := 12) hκ rfl dL_law_11 rfl ?_
    refine jc_callI (pc' := 15) (cells' := 132) (slots' := 21872) hκ (k_M (g0 := gL y q u) (X := X0 (u.2 0).2.2) (a := q2) (h0 _ hu)) rfl rfl rfl wm_7_6 wm_7_7 wm_1_5 (gNa wm_7_8) rfl hqS_X10_init ⟨Nat.le_of_ble_eq_true rfl, Nat.le_of_ble_eq_true rfl⟩ rfl rfl (Nat.le_of_ble_eq_true rfl) rfl rfl (Nat.le_of_ble_eq_true rfl) (Nat.le_of_ble_eq_true rfl) dL_law_12 rfl (fun v hv => ?_)
    obtain ⟨g, M⟩ := v
    obtain ⟨⟨qs, eg⟩, hInv⟩ := hv
    refine jc_astore_n (pc' := 16) (lv' := [(2, .ref q2), (1, .ref q), (0, .ref b)]) hκ (Nat.le_of_ble_eq_true rfl) rfl rfl dL_law_15 rfl ?_
    refine jc_iconst (pc' := 17) (v := 0) hκ (by decide) dL_law_16 rfl ?_
    refine jc_istore_n (pc' := 18) (lv' := [(3, .int 0), (2, .ref q2), (1, .ref q), (0, .ref b)]) hκ (Nat.le_of_ble_eq_true rfl) rfl rfl dL_law_17 rfl ?_
    refine jc_sub [3, 2, 1, 0] rfl ?_
    have e1 : g.1 = y.1 := by
      have : g = gM (gL y q u) q2 qs := eg
      rw [this]; rfl
    have e2 : g.2.2 = y.2 := by
      have : g = gM (gL y q u) q2 qs := eg
      rw [this]; rfl
    have e3 : g.2.1 0 = q := by
      have : g = gM (gL y q u) q2 qs := eg
      rw [this]; rfl
    have e4 : g.2.1 11 = q2 := by
      have : g = gM (gL y q u) q2 qs := eg
      rw [this]; rfl
    rw [← e3, ← e4]
    subst eκ
    intro H locs ls hP hD hS hl
    obtain ⟨d1, d2, d3⟩ := ww_dg hD
    have hP : va_P g.1 vwCl (ww g (X0 (u.2 0).2.2) M) H := by rw [e1]; exact hP
    have hKw : va_K g.1 vwCl (wtys g) s := by
      have : ctys y = wtys g := by unfold ctys wtys; rw [e2]
      rw [e1, ← this]
      exact hK
    have hEnd : ∀ (X M : ST) (lv : List (Nat × Value)), Jw (p, l, e, room_1, s, m, #[Value.ref b], below, meth, c, 132, 21872, lw_Z below #[Value.ref b] s, fun q : Nat => s.heap.size ≤ q) g 4 X M lv 1300 [.int 1] := by
      intro X M lv H locs ls hP hS hl
      refine va_forget (fun q hq => hS.2.2 q hq) ?_
      refine W.widen (k := 600000) (n := 7302250) (Nat.le_of_ble_eq_true rfl) (Nat.le_of_ble_eq_true rfl) ?_
      exact lw_ret hx hb hr hlocks dL_law_1300
    exact law_loop (κ := (p, l, e, room_1, s, m, #[Value.ref b], below, meth, c, 132, 21872, lw_Z below #[Value.ref b] s, fun q : Nat => s.heap.size ≤ q)) ⟨hx, hb, hml, hown, fun w h => hts w (wAll_in w h), hKw, hN, d1, d3, rfl, Nat.le_of_ble_eq_true rfl, Nat.le_of_ble_eq_true rfl, d2⟩ ⟨hX, hbl, hbA⟩ hL hEnd hI hSkip 513 0 _ _ (by omega) (by omega) hInv H locs ls hP hS hl
  have hl := lv_entry ([.ref b]) (n := 4) (Nat.le_of_ble_eq_true rfl)
  rw [lg_entry_eq]
  subst eκ
  exact main s.heap [] _ (fun k q h => by simp at h) ⟨fun i j p q h => by simp at h, fun k q h => by simp at h⟩ va_S.rf hl
