theorem wm_46_6 : Cond.methodLink RX9 342 yX1_wrongLine ∈ wAll := inr_46 (List.mem_of_getElem? (i := 6) rfl)
theorem wm_46_7 : Cond.instanceMethod yX1_wrongLine ∈ wAll := inr_46 (List.mem_of_getElem? (i := 7) rfl)
theorem wm_46_8 : Cond.selects RX1 yX1_wrongLine yX1_wrongLine ∈ wAll := inr_46 (List.mem_of_getElem? (i := 8) rfl)
theorem wm_46_9 : Cond.code yX1_wrongLine cX1_wrongLine 4 (some .int) ∈ wAll := inr_46 (List.mem_of_getElem? (i := 9) rfl)
theorem hqV_X1_wrongLine : yX1_wrongLine.cls = RX1 ∧ yX1_wrongLine.cls ≠ "java/lang/invoke/MethodHandle" ∧ yX1_wrongLine.cls ≠ "java/lang/invoke/VarHandle" ∧ (parseMethodDescriptor yX1_wrongLine.desc).map (fun d => d.parameters.length) = some 2 := by decide +kernel
abbrev rm_LR_check : Room := { frames := 7, cells := 0, slots := 0, locals := 160 }
def wp_LR_check (X : ST) (p1 : Int32) (post : Int32 → ST → Prop) : Prop :=
  (0 ≤ p1 → (wp_LR_isTooSmall X (fun r2 X1 => (r2 = 0 → (wp_LR_beginEmptyCase X1 (fun X3 => wp_Judge_wrongLine_proof X3 p1 (fun r6 X5 => post r6 X5)))) ∧ (¬ r2 = 0 → (post (-4) X1))))) ∧ (¬ 0 ≤ p1 → (post (-2) X))
set_option maxHeartbeats 4000000 in
set_option maxRecDepth 100000 in
theorem lb_LR_check {κ : Cx} {g : Gx} {M : ST} (hκ : CF κ g RX9 cX9_check wq_X9_check 2 rm_LR_check) {post : Int32 → ST → Prop} (hR : RtxI κ g 2 cX9_check M post) {X : ST} {p1 : Int32} (h : wp_LR_check X p1 post) : Jw κ g 2 X M [(0, .ref (g.2.1 0)), (1, .int p1)] 0 [] := by
  unfold wp_LR_check at h
  refine j_iload_n (pc' := 1) hκ 1 rfl rfl dX9_check_0 rfl ?_
  refine j_if_ge (tgt := 7) (pc' := 4) hκ dX9_check_1 (by decide) rfl (fun c => ?_) (fun c => ?_)
  · replace h := h.1 c
    refine j_aload_n (pc' := 8) hκ 0 rfl rfl dX9_check_7 rfl ?_
    refine jx_callVi (pc' := 11) hκ (c_LR_isTooSmall (dg hκ) h) rfl rfl rfl (gV wm_32_5 wm_32_6 wm_32_7 wm_1_2 wm_32_8) hqV_X9_isTooSmall ⟨Nat.le_of_ble_eq_true rfl, Nat.le_of_ble_eq_true rfl⟩ (wg_0 g _ _) rfl rfl rfl (Nat.le_of_ble_eq_true rfl) dX9_check_8 rfl (fun r2 X1 h => ?_)
    refine j_if_eq (tgt := 17) (pc' := 14) hκ dX9_check_11 (by decide) rfl (fun c => ?_) (fun c => ?_)
    · replace h := h.1 c
      refine j_aload_n (pc' := 18) hκ 0 rfl rfl dX9_check_17 rfl ?_
      refine jx_callVv (pc' := 21) hκ (c_LR_beginEmptyCase (dg hκ) h) rfl rfl rfl (gV wm_32_13 wm_32_14 wm_32_15 wm_1_2 wm_32_16) hqV_X9_beginEmptyCase ⟨Nat.le_of_ble_eq_true rfl, Nat.le_of_ble_eq_true rfl⟩ (wg_0 g _ _) rfl rfl rfl (Nat.le_of_ble_eq_true rfl) dX9_check_18 rfl (fun X3 h => ?_)
      refine j_aload_n (pc' := 22) hκ 0 rfl rfl dX9_check_21 rfl ?_
      refine jg_0_7 (pc' := 25) hκ (mi inlX9) (fl_in hκ (mc wm_2_20)) dX9_check_22 rfl ?_
      refine j_aload_n (pc' := 26) hκ 0 rfl rfl dX9_check_25 rfl ?_
      refine jg_0_8 (pc' := 29) hκ (mi inlX9) (fl_in hκ (mc wm_3_0)) dX9_check_26 rfl ?_
      refine j_iload_n (pc' := 30) hκ 1 rfl rfl dX9_check_29 rfl ?_
      refine jx_callVi (pc' := 33) hκ (c_Judge_wrongLine_proof (dg hκ) h) rfl rfl rfl (gV wm_46_6 wm_46_7 wm_46_8 wm_2_19 wm_46_9) hqV_X1_wrongLine ⟨Nat.le_of_ble_eq_true rfl, Nat.le_of_ble_eq_true rfl⟩ (wg_8 g _ _) rfl rfl rfl (Nat.le_of_ble_eq_true rfl) dX9_check_30 rfl (fun r6 X5 h => ?_)
      exact hR _ _ _ _ dX9_check_33 h
    · replace h := h.2 c
      refine j_bipush (pc' := 16) (v := (-4)) hκ (by decide) dX9_check_14 rfl ?_
      exact hR _ _ _ _ dX9_check_16 h
  · replace h := h.2 c
    refine j_bipush (pc' := 6) (v := (-2)) hκ (by decide) dX9_check_4 rfl ?_
    exact hR _ _ _ _ dX9_check_6 h
theorem c_LR_check {g : Gx} (hg : Dg g) {X M : ST} {p1 : Int32} {post : Int32 → ST → Prop} (h : wp_LR_check X p1 post) (l : Launch) : Met l yX9_check wq_X9_check rm_LR_check (va_Pc [.ref (g.2.1 0), .int p1] (PU g X M)) (va_Qi post (fun Y t => va_P g.1 vwCl (ww g Y M) t.heap) (wA g)) 0 0 (wA g) :=
  met_xi hg (by decide) rfl [.ref (g.2.1 0), .int p1] rfl (Nat.le_of_ble_eq_true rfl) (fun κ hκ hR => lb_LR_check hκ hR h) l
