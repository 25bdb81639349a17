theorem wm_46_18 : Cond.methodLink RX1 45 yX1_canStand ∈ wAll := inr_46 (List.mem_of_getElem? (i := 18) rfl)
theorem wm_46_19 : Cond.instanceMethod yX1_canStand ∈ wAll := inr_46 (List.mem_of_getElem? (i := 19) rfl)
theorem wm_46_20 : Cond.selects RX1 yX1_canStand yX1_canStand ∈ wAll := inr_46 (List.mem_of_getElem? (i := 20) rfl)
theorem wm_46_21 : Cond.code yX1_canStand cX1_canStand 5 (some .boolean) ∈ wAll := inr_46 (List.mem_of_getElem? (i := 21) rfl)
theorem hqV_X1_canStand : yX1_canStand.cls = RX1 ∧ yX1_canStand.cls ≠ "java/lang/invoke/MethodHandle" ∧ yX1_canStand.cls ≠ "java/lang/invoke/VarHandle" ∧ (parseMethodDescriptor yX1_canStand.desc).map (fun d => d.parameters.length) = some 4 := by decide +kernel
abbrev rm_Judge_follow_proof : Room := { frames := 3, cells := 0, slots := 0, locals := 66 }
def wp_Judge_follow_proof (X : ST) (p2 : Int32) (post : ST → Prop) : Prop :=
  vp_in p2 400 ∧ ((¬ (x_proof_ops X p2.toNatClampNeg) = 1 → (wp_Case_goOn X (fun X1 => post X1))) ∧ ((x_proof_ops X p2.toNatClampNeg) = 1 → (vp_in p2 400 ∧ (vp_in p2 400 ∧ (wp_Case_splitBy X (x_proof_as X p2.toNatClampNeg) (x_proof_bs X p2.toNatClampNeg) (fun X3 => post X3))))))
set_option maxHeartbeats 4000000 in
set_option maxRecDepth 100000 in
theorem lb_Judge_follow_proof {κ : Cx} {g : Gx} {M : ST} (hκ : CF κ g RX1 cX1_follow wq_X1_follow 3 rm_Judge_follow_proof) {post : ST → Prop} (hR : RtxV κ g 3 cX1_follow M post) {X : ST} {p2 : Int32} (h : wp_Judge_follow_proof X p2 post) : Jw κ g 3 X M [(0, .ref (g.2.1 8)), (1, .ref (g.2.1 9)), (2, .int p2)] 0 [] := by
  unfold wp_Judge_follow_proof at h
  refine j_aload_n (pc' := 1) hκ 1 rfl rfl dX1_follow_0 rfl ?_
  refine jg_9_0 (pc' := 4) hκ (mi inlX3) (fl_ne hκ 31 rfl) dX1_follow_1 rfl ?_
  refine j_iload_n (pc' := 5) hκ 2 rfl rfl dX1_follow_4 rfl ?_
  refine jx_iald (pc' := 6) hκ (ah_41 g) h.1 dX1_follow_5 rfl ?_
  replace h := h.2
  refine j_iconst (pc' := 7) (v := 1) hκ (by decide) dX1_follow_6 rfl ?_
  refine j_icmp_ne (tgt := 32) (pc' := 10) hκ dX1_follow_7 (by decide) rfl (fun c => ?_) (fun c => ?_)
  · replace h := h.1 c
    refine j_aload_n (pc' := 33) hκ 0 rfl rfl dX1_follow_32 rfl ?_
    refine jg_8_1 (pc' := 36) hκ (mi inlX1) (fl_in hκ (mc wm_6_21)) dX1_follow_33 rfl ?_
    refine jx_callVv (pc' := 39) hκ (c_Case_goOn (dg hκ) h) rfl rfl rfl (gV wm_41_18 wm_41_19 wm_41_20 wm_2_11 wm_41_21) hqV_X0_goOn ⟨Nat.le_of_ble_eq_true rfl, Nat.le_of_ble_eq_true rfl⟩ (wg_6 g _ _) rfl rfl rfl (Nat.le_of_ble_eq_true rfl) dX1_follow_36 rfl (fun X1 h => ?_)
    exact hR _ _ _ dX1_follow_39 h
  · replace h := h.2 c
    refine j_aload_n (pc' := 11) hκ 0 rfl rfl dX1_follow_10 rfl ?_
    refine jg_8_1 (pc' := 14) hκ (mi inlX1) (fl_in hκ (mc wm_6_21)) dX1_follow_11 rfl ?_
    refine j_aload_n (pc' := 15) hκ 1 rfl rfl dX1_follow_14 rfl ?_
    refine jg_9_1 (pc' := 18) hκ (mi inlX3) (fl_ne hκ 32 rfl) dX1_follow_15 rfl ?_
    refine j_iload_n (pc' := 19) hκ 2 rfl rfl dX1_follow_18 rfl ?_
    refine jx_iald (pc' := 20) hκ (ah_42 g) h.1 dX1_follow_19 rfl ?_
    replace h := h.2
    refine j_aload_n (pc' := 21) hκ 1 rfl rfl dX1_follow_20 rfl ?_
    refine jg_9_2 (pc' := 24) hκ (mi inlX3) (fl_ne hκ 33 rfl) dX1_follow_21 rfl ?_
    refine j_iload_n (pc' := 25) hκ 2 rfl rfl dX1_follow_24 rfl ?_
    refine jx_iald (pc' := 26) hκ (ah_43 g) h.1 dX1_follow_25 rfl ?_
    replace h := h.2
    refine jx_callVv (pc' := 29) hκ (c_Case_splitBy (dg hκ) h) rfl rfl rfl (gV wm_41_10 wm_41_11 wm_41_12 wm_2_11 wm_41_13) hqV_X0_splitBy ⟨Nat.le_of_ble_eq_true rfl, Nat.le_of_ble_eq_true rfl⟩ (wg_6 g _ _) rfl rfl rfl (Nat.le_of_ble_eq_true rfl) dX1_follow_26 rfl (fun X3 h => ?_)
    refine j_goto (pc' := 39) hκ (by decide) dX1_follow_29 ?_
    exact hR _ _ _ dX1_follow_39 h
theorem c_Judge_follow_proof {g : Gx} (hg : Dg g) {X M : ST} {p2 : Int32} {post : ST → Prop} (h : wp_Judge_follow_proof X p2 post) (l : Launch) : Met l yX1_follow wq_X1_follow rm_Judge_follow_proof (va_Pc [.ref (g.2.1 8), .ref (g.2.1 9), .int p2] (PU g X M)) (va_Qv post (fun Y t => va_P g.1 vwCl (ww g Y M) t.heap) (wA g)) 0 0 (wA g) :=
  met_xv hg (by decide) rfl [.ref (g.2.1 8), .ref (g.2.1 9), .int p2] rfl (Nat.le_of_ble_eq_true rfl) (fun κ hκ hR => lb_Judge_follow_proof hκ hR h) l
abbrev rm_Judge_wrongLine_proof : Room := { frames := 7, cells := 0, slots := 0, locals := 159 }
def wp_Judge_wrongLine_proof_2_s (K46 : ST → Int32 → Prop) (K60 : ST → Prop) (post : Int32 → ST → Prop) (rec : ST → Int32 → Int32 → Prop) (X : ST) (l2 : Int32) (l3 : Int32) : Prop :=
  ((x_proof_count X) ≤ l3 → (K60 X)) ∧ (¬ (x_proof_count X) ≤ l3 → ((¬ (x_Case_isOver X) = 0 → (K46 X l3)) ∧ ((x_Case_isOver X) = 0 → (vp_in l3 400 ∧ (vp_in l3 400 ∧ (vp_in l3 400 ∧ (wp_Judge_canStand X (x_proof_ops X l3.toNatClampNeg) (x_proof_as X l3.toNatClampNeg) (x_proof_bs X l3.toNatClampNeg) l2 (fun r2 X1 => (¬ r2 = 0 → (wp_Judge_follow_proof X1 l3 (fun X3 => rec X3 l2 (l3 + 1)))) ∧ (r2 = 0 → (K46 X1 l3))))))))))
def wp_Judge_wrongLine_proof_2 (K46 : ST → Int32 → Prop) (K60 : ST → Prop) (post : Int32 → ST → Prop) : Nat → ST → Int32 → Int32 → Prop
  | 0 => fun _ _ _ => False
  | n + 1 => wp_Judge_wrongLine_proof_2_s K46 K60 post (wp_Judge_wrongLine_proof_2 K46 K60 post n)
set_option maxHeartbeats 4000000 in
set_option maxRecDepth 100000 in
theorem lb_Judge_wrongLine_proof_2 {κ : Cx} {g : Gx} {M : ST} (hκ : CF κ g RX1 cX1_wrongLine wq_X1_wrongLine 4 rm_Judge_wrongLine_proof) {post : Int32 → ST → Prop} (hR : RtxI κ g 4 cX1_wrongLine M post) {K46 : ST → Int32 → Prop} {K60 : ST → Prop} (hK46 : ∀ (X : ST) (l3 : Int32), K46 X l3 → Jw κ g 4 X M [(3, .int l3)] 46 []) (hK60 : ∀ (X : ST), K60 X → Jw κ g 4 X M [(0, .ref (g.2.1 8)), (1, .ref (g.2.1 9))] 60 []) : ∀ (n : Nat) (X : ST) (l2 : Int32) (l3 : Int32), wp_Judge_wrongLine_proof_2 K46 K60 post n X l2 l3 → Jw κ g 4 X M [(0, .ref (g.2.1 8)), (1, .ref (g.2.1 9)), (2, .int l2), (3, .int l3)] 2 [] := by
  intro n
  induction n with
  | zero =>
    intro X l2 l3  h
    exact h.elim
  | succ n ih =>
    intro X l2 l3  h
    have h : wp_Judge_wrongLine_proof_2_s K46 K60 post (wp_Judge_wrongLine_proof_2 K46 K60 post n) X l2 l3 := h
    unfold wp_Judge_wrongLine_proof_2_s at h
    refine j_iload_n (pc' := 3) hκ 3 rfl rfl dX1_wrongLine_2 rfl ?_
    refine j_aload_n (pc' := 4) hκ 1 rfl rfl dX1_wrongLine_3 rfl ?_
    refine jg_9_3 (pc' := 7) hκ (mi inlX3) (fl_ne hκ 29 rfl) dX1_wrongLine_4 rfl ?_
    refine j_icmp_ge (tgt := 60) (pc' := 10) hκ dX1_wrongLine_7 (by decide) rfl (fun c => ?_) (fun c => ?_)
    · replace h := h.1 c
      refine j_sub [0, 1] rfl ?_
      exact hK60 _  h
    · replace h := h.2 c
      refine j_aload_n (pc' := 11) hκ 0 rfl rfl dX1_wrongLine_10 rfl ?_
      refine jg_8_1 (pc' := 14) hκ (mi inlX1) (fl_in hκ (mc wm_6_21)) dX1_wrongLine_11 rfl ?_
      refine jg_6_5 (pc' := 17) hκ (mi inlX0) (fl_ne hκ 30 rfl) dX1_wrongLine_14 rfl ?_
      refine j_if_ne (tgt := 46) (pc' := 20) hκ dX1_wrongLine_17 (by decide) rfl (fun c => ?_) (fun c => ?_)
      · replace h := h.1 c
        refine j_sub [3] rfl ?_
        exact hK46 _ _  h
      · replace h := h.2 c
        refine j_aload_n (pc' := 21) hκ 0 rfl rfl dX1_wrongLine_20 rfl ?_
        refine j_aload_n (pc' := 22) hκ 1 rfl rfl dX1_wrongLine_21 rfl ?_
        refine jg_9_0 (pc' := 25) hκ (mi inlX3) (fl_ne hκ 31 rfl) dX1_wrongLine_22 rfl ?_
        refine j_iload_n (pc' := 26) hκ 3 rfl rfl dX1_wrongLine_25 rfl ?_
        refine jx_iald (pc' := 27) hκ (ah_41 g) h.1 dX1_wrongLine_26 rfl ?_
        replace h := h.2
        refine j_aload_n (pc' := 28) hκ 1 rfl rfl dX1_wrongLine_27 rfl ?_
        refine jg_9_1 (pc' := 31) hκ (mi inlX3) (fl_ne hκ 32 rfl) dX1_wrongLine_28 rfl ?_
        refine j_iload_n (pc' := 32) hκ 3 rfl rfl dX1_wrongLine_31 rfl ?_
        refine jx_iald (pc' := 33) hκ (ah_42 g) h.1 dX1_wrongLine_32 rfl ?_
        replace h := h.2
        refine j_aload_n (pc' := 34) hκ 1 rfl rfl dX1_wrongLine_33 rfl ?_
        refine jg_9_2 (pc' := 37) hκ (mi inlX3) (fl_ne hκ 33 rfl) dX1_wrongLine_34 rfl ?_
        refine j_iload_n (pc' := 38) hκ 3 rfl rfl dX1_wrongLine_37 rfl ?_
        refine jx_iald (pc' := 39) hκ (ah_43 g) h.1 dX1_wrongLine_38 rfl ?_
        replace h := h.2
        refine j_iload_n (pc' := 40) hκ 2 rfl rfl dX1_wrongLine_39 rfl ?_
        refine jx_callVi (pc' := 43) hκ (c_Judge_canStand (dg hκ) h) rfl rfl rfl (gV wm_46_18 wm_46_19 wm_46_20 wm_2_19 wm_46_21) hqV_X1_canStand ⟨Nat.le_of_ble_eq_true rfl, Nat.le_of_ble_eq_true rfl⟩ (wg_8 g _ _) rfl rfl rfl (Nat.le_of_ble_eq_true rfl) dX1_wrongLine_40 rfl (fun r2 X1 h => ?_)
        refine j_if_ne (tgt := 48) (pc' := 46) hκ dX1_wrongLine_43 (by decide) rfl (fun c => ?_) (fun c => ?_)
        · replace h := h.1 c
          refine j_aload_n (pc' := 49) hκ 0 rfl rfl dX1_wrongLine_48 rfl ?_
          refine j_aload_n (pc' := 50) hκ 1 rfl rfl dX1_wrongLine_49 rfl ?_
          refine j_iload_n (pc' := 51) hκ 3 rfl rfl dX1_wrongLine_50 rfl ?_
          refine jx_callVv (pc' := 54) hκ (c_Judge_follow_proof (dg hκ) h) rfl rfl rfl (gV wm_41_6 wm_41_7 wm_41_8 wm_2_19 wm_41_9) hqV_X1_follow ⟨Nat.le_of_ble_eq_true rfl, Nat.le_of_ble_eq_true rfl⟩ (wg_8 g _ _) rfl rfl rfl (Nat.le_of_ble_eq_true rfl) dX1_wrongLine_51 rfl (fun X3 h => ?_)
          refine j_iinc (pc' := 57) (v := l3 + 1) (lv' := [(3, .int (l3 + 1)), (0, .ref (g.2.1 8)), (1, .ref (g.2.1 9)), (2, .int l2)]) hκ 3 rfl rfl (Nat.le_of_ble_eq_true rfl) rfl dX1_wrongLine_54 rfl ?_
          refine j_goto (pc' := 2) hκ (by decide) dX1_wrongLine_57 ?_
          refine j_sub [1, 2, 3, 0] rfl ?_
          exact ih _ _ _  h
        · replace h := h.2 c
          refine j_sub [3] rfl ?_
          exact hK46 _ _  h
def wp_Judge_wrongLine_proof (X : ST) (p2 : Int32) (post : Int32 → ST → Prop) : Prop :=
  ∃ n, wp_Judge_wrongLine_proof_2 (fun X5 v6 => post v6 X5) (fun X7 => ((x_Case_isOver X7) = 0 → (post (x_proof_count X7) X7)) ∧ (¬ (x_Case_isOver X7) = 0 → (post (-1) X7))) post n X p2 0
set_option maxHeartbeats 4000000 in
set_option maxRecDepth 100000 in
theorem lb_Judge_wrongLine_proof {κ : Cx} {g : Gx} {M : ST} (hκ : CF κ g RX1 cX1_wrongLine wq_X1_wrongLine 4 rm_Judge_wrongLine_proof) {post : Int32 → ST → Prop} (hR : RtxI κ g 4 cX1_wrongLine M post) {X : ST} {p2 : Int32} (h : wp_Judge_wrongLine_proof X p2 post) : Jw κ g 4 X M [(0, .ref (g.2.1 8)), (1, .ref (g.2.1 9)), (2, .int p2)] 0 [] := by
  unfold wp_Judge_wrongLine_proof at h
  refine j_iconst (pc' := 1) (v := 0) hκ (by decide) dX1_wrongLine_0 rfl ?_
  refine j_istore_n (pc' := 2) (lv' := [(3, .int 0), (0, .ref (g.2.1 8)), (1, .ref (g.2.1 9)), (2, .int p2)]) hκ (Nat.le_of_ble_eq_true rfl) rfl rfl dX1_wrongLine_1 rfl ?_
  obtain ⟨n, h⟩ := h
  refine j_sub [1, 2, 3, 0] rfl ?_
  refine lb_Judge_wrongLine_proof_2 hκ hR ?_ ?_ n _ _ _  h
  · intro X5 v6  h
    refine j_iload_n (pc' := 47) hκ 0 rfl rfl dX1_wrongLine_46 rfl ?_
    exact hR _ _ _ _ dX1_wrongLine_47 h
  · intro X7  h
    refine j_aload_n (pc' := 61) hκ 0 rfl rfl dX1_wrongLine_60 rfl ?_
    refine jg_8_1 (pc' := 64) hκ (mi inlX1) (fl_in hκ (mc wm_6_21)) dX1_wrongLine_61 rfl ?_
    refine jg_6_5 (pc' := 67) hκ (mi inlX0) (fl_ne hκ 30 rfl) dX1_wrongLine_64 rfl ?_
    refine j_if_eq (tgt := 74) (pc' := 70) hκ dX1_wrongLine_67 (by decide) rfl (fun c => ?_) (fun c => ?_)
    · replace h := h.1 c
      refine j_aload_n (pc' := 75) hκ 1 rfl rfl dX1_wrongLine_74 rfl ?_
      refine jg_9_3 (pc' := 78) hκ (mi inlX3) (fl_ne hκ 29 rfl) dX1_wrongLine_75 rfl ?_
      exact hR _ _ _ _ dX1_wrongLine_78 h
    · replace h := h.2 c
      refine j_iconst (pc' := 71) (v := (-1)) hκ (by decide) dX1_wrongLine_70 rfl ?_
      refine j_goto (pc' := 78) hκ (by decide) dX1_wrongLine_71 ?_
      exact hR _ _ _ _ dX1_wrongLine_78 h
theorem c_Judge_wrongLine_proof {g : Gx} (hg : Dg g) {X M : ST} {p2 : Int32} {post : Int32 → ST → Prop} (h : wp_Judge_wrongLine_proof X p2 post) (l : Launch) : Met l yX1_wrongLine wq_X1_wrongLine rm_Judge_wrongLine_proof (va_Pc [.ref (g.2.1 8), .ref (g.2.1 9), .int p2] (PU g X M)) (va_Qi post (fun Y t => va_P g.1 vwCl (ww g Y M) t.heap) (wA g)) 0 0 (wA g) :=
  met_xi hg (by decide) rfl [.ref (g.2.1 8), .ref (g.2.1 9), .int p2] rfl (Nat.le_of_ble_eq_true rfl) (fun κ hκ hR => lb_Judge_wrongLine_proof hκ hR h) l
theorem wm_46_14 : Cond.methodLink RX9 346 yX1_wrongLine ∈ wAll := inr_46 (List.mem_of_getElem? (i := 14) rfl)
theorem wm_46_15 : Cond.instanceMethod yX1_wrongLine ∈ wAll := inr_46 (List.mem_of_getElem? (i := 15) rfl)
theorem wm_46_16 : Cond.selects RX1 yX1_wrongLine yX1_wrongLine ∈ wAll := inr_46 (List.mem_of_getElem? (i := 16) rfl)
theorem wm_46_17 : Cond.code yX1_wrongLine cX1_wrongLine 4 (some .int) ∈ wAll := inr_46 (List.mem_of_getElem? (i := 17) rfl)
theorem hqV_X1_wrongLine : yX1_wrongLine.cls = RX1 ∧ yX1_wrongLine.cls ≠ "java/lang/invoke/MethodHandle" ∧ yX1_wrongLine.cls ≠ "java/lang/invoke/VarHandle" ∧ (parseMethodDescriptor yX1_wrongLine.desc).map (fun d => d.parameters.length) = some 2 := by decide +kernel
abbrev rm_LR_check : Room := { frames := 8, cells := 0, slots := 0, locals := 182 }
def wp_LR_check (X : ST) (p1 : Int32) (post : Int32 → ST → Prop) : Prop :=
  (0 ≤ p1 → (wp_LR_isTooSmall X (fun r2 X1 => (r2 = 0 → (wp_LR_beginEmptyCase X1 (fun X3 => wp_Judge_wrongLine_proof X3 p1 (fun r6 X5 => post r6 X5)))) ∧ (¬ r2 = 0 → (post (-4) X1))))) ∧ (¬ 0 ≤ p1 → (post (-2) X))
set_option maxHeartbeats 4000000 in
set_option maxRecDepth 100000 in
theorem lb_LR_check {κ : Cx} {g : Gx} {M : ST} (hκ : CF κ g RX9 cX9_check wq_X9_check 2 rm_LR_check) {post : Int32 → ST → Prop} (hR : RtxI κ g 2 cX9_check M post) {X : ST} {p1 : Int32} (h : wp_LR_check X p1 post) : Jw κ g 2 X M [(0, .ref (g.2.1 0)), (1, .int p1)] 0 [] := by
  unfold wp_LR_check at h
  refine j_iload_n (pc' := 1) hκ 1 rfl rfl dX9_check_0 rfl ?_
  refine j_if_ge (tgt := 7) (pc' := 4) hκ dX9_check_1 (by decide) rfl (fun c => ?_) (fun c => ?_)
  · replace h := h.1 c
    refine j_aload_n (pc' := 8) hκ 0 rfl rfl dX9_check_7 rfl ?_
    refine jx_callVi (pc' := 11) hκ (c_LR_isTooSmall (dg hκ) h) rfl rfl rfl (gV wm_32_5 wm_32_6 wm_32_7 wm_1_2 wm_32_8) hqV_X9_isTooSmall ⟨Nat.le_of_ble_eq_true rfl, Nat.le_of_ble_eq_true rfl⟩ (wg_0 g _ _) rfl rfl rfl (Nat.le_of_ble_eq_true rfl) dX9_check_8 rfl (fun r2 X1 h => ?_)
    refine j_if_eq (tgt := 17) (pc' := 14) hκ dX9_check_11 (by decide) rfl (fun c => ?_) (fun c => ?_)
    · replace h := h.1 c
      refine j_aload_n (pc' := 18) hκ 0 rfl rfl dX9_check_17 rfl ?_
      refine jx_callVv (pc' := 21) hκ (c_LR_beginEmptyCase (dg hκ) h) rfl rfl rfl (gV wm_32_13 wm_32_14 wm_32_15 wm_1_2 wm_32_16) hqV_X9_beginEmptyCase ⟨Nat.le_of_ble_eq_true rfl, Nat.le_of_ble_eq_true rfl⟩ (wg_0 g _ _) rfl rfl rfl (Nat.le_of_ble_eq_true rfl) dX9_check_18 rfl (fun X3 h => ?_)
      refine j_aload_n (pc' := 22) hκ 0 rfl rfl dX9_check_21 rfl ?_
      refine jg_0_7 (pc' := 25) hκ (mi inlX9) (fl_in hκ (mc wm_2_20)) dX9_check_22 rfl ?_
      refine j_aload_n (pc' := 26) hκ 0 rfl rfl dX9_check_25 rfl ?_
      refine jg_0_8 (pc' := 29) hκ (mi inlX9) (fl_in hκ (mc wm_3_0)) dX9_check_26 rfl ?_
      refine j_iload_n (pc' := 30) hκ 1 rfl rfl dX9_check_29 rfl ?_
      refine jx_callVi (pc' := 33) hκ (c_Judge_wrongLine_proof (dg hκ) h) rfl rfl rfl (gV wm_46_14 wm_46_15 wm_46_16 wm_2_19 wm_46_17) hqV_X1_wrongLine ⟨Nat.le_of_ble_eq_true rfl, Nat.le_of_ble_eq_true rfl⟩ (wg_8 g _ _) rfl rfl rfl (Nat.le_of_ble_eq_true rfl) dX9_check_30 rfl (fun r6 X5 h => ?_)
      exact hR _ _ _ _ dX9_check_33 h
    · replace h := h.2 c
      refine j_bipush (pc' := 16) (v := (-4)) hκ (by decide) dX9_check_14 rfl ?_
      exact hR _ _ _ _ dX9_check_16 h
  · replace h := h.2 c
    refine j_bipush (pc' := 6) (v := (-2)) hκ (by decide) dX9_check_4 rfl ?_
    exact hR _ _ _ _ dX9_check_6 h
theorem c_LR_check {g : Gx} (hg : Dg g) {X M : ST} {p1 : Int32} {post : Int32 → ST → Prop} (h : wp_LR_check X p1 post) (l : Launch) : Met l yX9_check wq_X9_check rm_LR_check (va_Pc [.ref (g.2.1 0), .int p1] (PU g X M)) (va_Qi post (fun Y t => va_P g.1 vwCl (ww g Y M) t.heap) (wA g)) 0 0 (wA g) :=
  met_xi hg (by decide) rfl [.ref (g.2.1 0), .int p1] rfl (Nat.le_of_ble_eq_true rfl) (fun κ hκ hR => lb_LR_check hκ hR h) l
