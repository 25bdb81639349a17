theorem wm_18_17 : Cond.methodLink RX9 185 yX2_survey ∈ wAll := inr_18 (List.mem_of_getElem? (i := 17) rfl)
theorem wm_18_18 : Cond.instanceMethod yX2_survey ∈ wAll := inr_18 (List.mem_of_getElem? (i := 18) rfl)
theorem wm_18_19 : Cond.selects RX2 yX2_survey yX2_survey ∈ wAll := inr_18 (List.mem_of_getElem? (i := 19) rfl)
theorem wm_18_20 : Cond.code yX2_survey cX2_survey 4 none ∈ wAll := inr_18 (List.mem_of_getElem? (i := 20) rfl)
theorem hqV_X2_survey : yX2_survey.cls = RX2 ∧ yX2_survey.cls ≠ "java/lang/invoke/MethodHandle" ∧ yX2_survey.cls ≠ "java/lang/invoke/VarHandle" ∧ (parseMethodDescriptor yX2_survey.desc).map (fun d => d.parameters.length) = some 0 := by decide +kernel
abbrev rm_LR_twin : Room := { frames := 4, cells := 0, slots := 0, locals := 93 }
def wp_LR_twin (X : ST) (p1 : Int32) (post : Int32 → ST → Prop) : Prop :=
  wp_Lamps_isLamp X p1 (fun r2 X1 => (¬ r2 = 0 → (vp_in p1 12 ∧ (((x_Lamps_kinds X1 p1.toNatClampNeg) = 1 → (wp_Lamps_survey X1 (fun X3 => vp_in p1 12 ∧ (post (x_Lamps_twins X3 p1.toNatClampNeg) X3)))) ∧ (¬ (x_Lamps_kinds X1 p1.toNatClampNeg) = 1 → (vp_in p1 12 ∧ (((x_Lamps_kinds X1 p1.toNatClampNeg) = 2 → (wp_Lamps_survey X1 (fun X5 => vp_in p1 12 ∧ (post (x_Lamps_twins X5 p1.toNatClampNeg) X5)))) ∧ (¬ (x_Lamps_kinds X1 p1.toNatClampNeg) = 2 → (post (-5) X1)))))))) ∧ (r2 = 0 → (post (-2) X1)))
set_option maxHeartbeats 4000000 in
set_option maxRecDepth 100000 in
theorem lb_LR_twin {κ : Cx} {g : Gx} {M : ST} (hκ : CF κ g RX9 cX9_twin wq_X9_twin 2 rm_LR_twin) {post : Int32 → ST → Prop} (hR : RtxI κ g 2 cX9_twin M post) {X : ST} {p1 : Int32} (h : wp_LR_twin X p1 post) : Jw κ g 2 X M [(0, .ref (g.2.1 0)), (1, .int p1)] 0 [] := by
  unfold wp_LR_twin at h
  refine j_aload_n (pc' := 1) hκ 0 rfl rfl dX9_twin_0 rfl ?_
  refine jg_0_2 (pc' := 4) hκ (mi inlX9) (fl_in hκ (mc wm_2_0)) dX9_twin_1 rfl ?_
  refine j_iload_n (pc' := 5) hκ 1 rfl rfl dX9_twin_4 rfl ?_
  refine jx_callVi (pc' := 8) hκ (c_Lamps_isLamp (dg hκ) h) rfl rfl rfl (gV wm_17_1 wm_17_2 wm_17_3 wm_1_23 wm_17_4) hqV_X2_isLamp ⟨Nat.le_of_ble_eq_true rfl, Nat.le_of_ble_eq_true rfl⟩ (wg_3 g _ _) rfl rfl rfl (Nat.le_of_ble_eq_true rfl) dX9_twin_5 rfl (fun r2 X1 h => ?_)
  refine j_if_ne (tgt := 14) (pc' := 11) hκ dX9_twin_8 (by decide) rfl (fun c => ?_) (fun c => ?_)
  · replace h := h.1 c
    refine j_aload_n (pc' := 15) hκ 0 rfl rfl dX9_twin_14 rfl ?_
    refine jg_0_2 (pc' := 18) hκ (mi inlX9) (fl_in hκ (mc wm_2_0)) dX9_twin_15 rfl ?_
    refine jg_3_2 (pc' := 21) hκ (mi inlX2) (fl_ne hκ 9 rfl) dX9_twin_18 rfl ?_
    refine j_iload_n (pc' := 22) hκ 1 rfl rfl dX9_twin_21 rfl ?_
    refine jx_iald (pc' := 23) hκ (ah_21 g) h.1 dX9_twin_22 rfl ?_
    replace h := h.2
    refine j_iconst (pc' := 24) (v := 1) hκ (by decide) dX9_twin_23 rfl ?_
    refine j_icmp_eq (tgt := 43) (pc' := 27) hκ dX9_twin_24 (by decide) rfl (fun c => ?_) (fun c => ?_)
    · replace h := h.1 c
      refine j_aload_n (pc' := 44) hκ 0 rfl rfl dX9_twin_43 rfl ?_
      refine jg_0_2 (pc' := 47) hκ (mi inlX9) (fl_in hκ (mc wm_2_0)) dX9_twin_44 rfl ?_
      refine jx_callVv (pc' := 50) hκ (c_Lamps_survey (dg hκ) h) rfl rfl rfl (gV wm_18_17 wm_18_18 wm_18_19 wm_1_23 wm_18_20) hqV_X2_survey ⟨Nat.le_of_ble_eq_true rfl, Nat.le_of_ble_eq_true rfl⟩ (wg_3 g _ _) rfl rfl rfl (Nat.le_of_ble_eq_true rfl) dX9_twin_47 rfl (fun X3 h => ?_)
      refine j_aload_n (pc' := 51) hκ 0 rfl rfl dX9_twin_50 rfl ?_
      refine jg_0_2 (pc' := 54) hκ (mi inlX9) (fl_in hκ (mc wm_2_0)) dX9_twin_51 rfl ?_
      refine jg_3_5 (pc' := 57) hκ (mi inlX2) (fl_ne hκ 10 rfl) dX9_twin_54 rfl ?_
      refine j_iload_n (pc' := 58) hκ 1 rfl rfl dX9_twin_57 rfl ?_
      refine jx_iald (pc' := 59) hκ (ah_24 g) h.1 dX9_twin_58 rfl ?_
      replace h := h.2
      exact hR _ _ _ _ dX9_twin_59 h
    · replace h := h.2 c
      refine j_aload_n (pc' := 28) hκ 0 rfl rfl dX9_twin_27 rfl ?_
      refine jg_0_2 (pc' := 31) hκ (mi inlX9) (fl_in hκ (mc wm_2_0)) dX9_twin_28 rfl ?_
      refine jg_3_2 (pc' := 34) hκ (mi inlX2) (fl_ne hκ 9 rfl) dX9_twin_31 rfl ?_
      refine j_iload_n (pc' := 35) hκ 1 rfl rfl dX9_twin_34 rfl ?_
      refine jx_iald (pc' := 36) hκ (ah_21 g) h.1 dX9_twin_35 rfl ?_
      replace h := h.2
      refine j_iconst (pc' := 37) (v := 2) hκ (by decide) dX9_twin_36 rfl ?_
      refine j_icmp_eq (tgt := 43) (pc' := 40) hκ dX9_twin_37 (by decide) rfl (fun c => ?_) (fun c => ?_)
      · replace h := h.1 c
        refine j_aload_n (pc' := 44) hκ 0 rfl rfl dX9_twin_43 rfl ?_
        refine jg_0_2 (pc' := 47) hκ (mi inlX9) (fl_in hκ (mc wm_2_0)) dX9_twin_44 rfl ?_
        refine jx_callVv (pc' := 50) hκ (c_Lamps_survey (dg hκ) h) rfl rfl rfl (gV wm_18_17 wm_18_18 wm_18_19 wm_1_23 wm_18_20) hqV_X2_survey ⟨Nat.le_of_ble_eq_true rfl, Nat.le_of_ble_eq_true rfl⟩ (wg_3 g _ _) rfl rfl rfl (Nat.le_of_ble_eq_true rfl) dX9_twin_47 rfl (fun X5 h => ?_)
        refine j_aload_n (pc' := 51) hκ 0 rfl rfl dX9_twin_50 rfl ?_
        refine jg_0_2 (pc' := 54) hκ (mi inlX9) (fl_in hκ (mc wm_2_0)) dX9_twin_51 rfl ?_
        refine jg_3_5 (pc' := 57) hκ (mi inlX2) (fl_ne hκ 10 rfl) dX9_twin_54 rfl ?_
        refine j_iload_n (pc' := 58) hκ 1 rfl rfl dX9_twin_57 rfl ?_
        refine jx_iald (pc' := 59) hκ (ah_24 g) h.1 dX9_twin_58 rfl ?_
        replace h := h.2
        exact hR _ _ _ _ dX9_twin_59 h
      · replace h := h.2 c
        refine j_bipush (pc' := 42) (v := (-5)) hκ (by decide) dX9_twin_40 rfl ?_
        exact hR _ _ _ _ dX9_twin_42 h
  · replace h := h.2 c
    refine j_bipush (pc' := 13) (v := (-2)) hκ (by decide) dX9_twin_11 rfl ?_
    exact hR _ _ _ _ dX9_twin_13 h
theorem c_LR_twin {g : Gx} (hg : Dg g) {X M : ST} {p1 : Int32} {post : Int32 → ST → Prop} (h : wp_LR_twin X p1 post) (l : Launch) : Met l yX9_twin wq_X9_twin rm_LR_twin (va_Pc [.ref (g.2.1 0), .int p1] (PU g X M)) (va_Qi post (fun Y t => va_P g.1 vwCl (ww g Y M) t.heap) (wA g)) 0 0 (wA g) :=
  met_xi hg (by decide) rfl [.ref (g.2.1 0), .int p1] rfl (Nat.le_of_ble_eq_true rfl) (fun κ hκ hR => lb_LR_twin hκ hR h) l
abbrev rm_Lamps_worthOf : Room := { frames := 0, cells := 0, slots := 0, locals := 0 }
def wp_Lamps_worthOf (X : ST) (p1 : Int32) (post : Int32 → ST → Prop) : Prop :=
  vp_in p1 12 ∧ ((¬ (x_Lamps_kinds X p1.toNatClampNeg) = 4 → (post 1 X)) ∧ ((x_Lamps_kinds X p1.toNatClampNeg) = 4 → (post 2 X)))
set_option maxHeartbeats 4000000 in
set_option maxRecDepth 100000 in
theorem lb_Lamps_worthOf {κ : Cx} {g : Gx} {M : ST} (hκ : CF κ g RX2 cX2_worthOf wq_X2_worthOf 2 rm_Lamps_worthOf) {post : Int32 → ST → Prop} (hR : RtxI κ g 2 cX2_worthOf M post) {X : ST} {p1 : Int32} (h : wp_Lamps_worthOf X p1 post) : Jw κ g 2 X M [(0, .ref (g.2.1 3)), (1, .int p1)] 0 [] := by
  unfold wp_Lamps_worthOf at h
  refine j_aload_n (pc' := 1) hκ 0 rfl rfl dX2_worthOf_0 rfl ?_
  refine jg_3_2 (pc' := 4) hκ (mi inlX2) (fl_in hκ (mc wm_4_9)) dX2_worthOf_1 rfl ?_
  refine j_iload_n (pc' := 5) hκ 1 rfl rfl dX2_worthOf_4 rfl ?_
  refine jx_iald (pc' := 6) hκ (ah_21 g) h.1 dX2_worthOf_5 rfl ?_
  replace h := h.2
  refine j_iconst (pc' := 7) (v := 4) hκ (by decide) dX2_worthOf_6 rfl ?_
  refine j_icmp_ne (tgt := 14) (pc' := 10) hκ dX2_worthOf_7 (by decide) rfl (fun c => ?_) (fun c => ?_)
  · replace h := h.1 c
    refine j_iconst (pc' := 15) (v := 1) hκ (by decide) dX2_worthOf_14 rfl ?_
    exact hR _ _ _ _ dX2_worthOf_15 h
  · replace h := h.2 c
    refine j_iconst (pc' := 11) (v := 2) hκ (by decide) dX2_worthOf_10 rfl ?_
    refine j_goto (pc' := 15) hκ (by decide) dX2_worthOf_11 ?_
    exact hR _ _ _ _ dX2_worthOf_15 h
theorem c_Lamps_worthOf {g : Gx} (hg : Dg g) {X M : ST} {p1 : Int32} {post : Int32 → ST → Prop} (h : wp_Lamps_worthOf X p1 post) (l : Launch) : Met l yX2_worthOf wq_X2_worthOf rm_Lamps_worthOf (va_Pc [.ref (g.2.1 3), .int p1] (PU g X M)) (va_Qi post (fun Y t => va_P g.1 vwCl (ww g Y M) t.heap) (wA g)) 0 0 (wA g) :=
  met_xi hg (by decide) rfl [.ref (g.2.1 3), .int p1] rfl (Nat.le_of_ble_eq_true rfl) (fun κ hκ hR => lb_Lamps_worthOf hκ hR h) l
theorem wm_20_6 : Cond.methodLink RX9 195 yX2_worthOf ∈ wAll := inr_20 (List.mem_of_getElem? (i := 6) rfl)
theorem wm_20_7 : Cond.instanceMethod yX2_worthOf ∈ wAll := inr_20 (List.mem_of_getElem? (i := 7) rfl)
theorem wm_20_8 : Cond.selects RX2 yX2_worthOf yX2_worthOf ∈ wAll := inr_20 (List.mem_of_getElem? (i := 8) rfl)
theorem wm_20_9 : Cond.code yX2_worthOf cX2_worthOf 2 (some .int) ∈ wAll := inr_20 (List.mem_of_getElem? (i := 9) rfl)
theorem hqV_X2_worthOf : yX2_worthOf.cls = RX2 ∧ yX2_worthOf.cls ≠ "java/lang/invoke/MethodHandle" ∧ yX2_worthOf.cls ≠ "java/lang/invoke/VarHandle" ∧ (parseMethodDescriptor yX2_worthOf.desc).map (fun d => d.parameters.length) = some 1 := by decide +kernel
theorem wm_20_5 : Cond.constant RX9 191 (-2147483648) ∈ wAll := inr_20 (List.mem_of_getElem? (i := 5) rfl)
abbrev rm_LR_of : Room := { frames := 2, cells := 0, slots := 0, locals := 42 }
def wp_LR_of (X : ST) (p1 : Int32) (p2 : Int32) (post : Int32 → ST → Prop) : Prop :=
  wp_Lamps_isLamp X p1 (fun r2 X1 => (¬ r2 = 0 → ((p2 = 0 → (vp_in p1 12 ∧ (post (x_Lamps_crossings X1 p1.toNatClampNeg) X1))) ∧ (¬ p2 = 0 → ((p2 = 1 → (vp_in p1 12 ∧ (post (x_Lamps_kinds X1 p1.toNatClampNeg) X1))) ∧ (¬ p2 = 1 → ((p2 = 2 → (wp_Lamps_worthOf X1 p1 (fun r4 X3 => post r4 X3))) ∧ (¬ p2 = 2 → ((p2 = 3 → (wp_Lamps_isLive X1 p1 (fun r6 X5 => (r6 = 0 → (post 1 X5)) ∧ (¬ r6 = 0 → (post 0 X5))))) ∧ (¬ p2 = 3 → ((p2 = 4 → (vp_in p1 12 ∧ (post (x_Lamps_prices X1 p1.toNatClampNeg) X1))) ∧ (¬ p2 = 4 → (post (-2147483648) X1)))))))))))) ∧ (r2 = 0 → (post (-2147483648) X1)))
set_option maxHeartbeats 4000000 in
set_option maxRecDepth 100000 in
theorem lb_LR_of {κ : Cx} {g : Gx} {M : ST} (hκ : CF κ g RX9 cX9_of wq_X9_of 3 rm_LR_of) {post : Int32 → ST → Prop} (hR : RtxI κ g 3 cX9_of M post) {X : ST} {p1 : Int32} {p2 : Int32} (h : wp_LR_of X p1 p2 post) : Jw κ g 3 X M [(0, .ref (g.2.1 0)), (1, .int p1), (2, .int p2)] 0 [] := by
  unfold wp_LR_of at h
  refine j_aload_n (pc' := 1) hκ 0 rfl rfl dX9_of_0 rfl ?_
  refine jg_0_2 (pc' := 4) hκ (mi inlX9) (fl_in hκ (mc wm_2_0)) dX9_of_1 rfl ?_
  refine j_iload_n (pc' := 5) hκ 1 rfl rfl dX9_of_4 rfl ?_
  refine jx_callVi (pc' := 8) hκ (c_Lamps_isLamp (dg hκ) h) rfl rfl rfl (gV wm_17_1 wm_17_2 wm_17_3 wm_1_23 wm_17_4) hqV_X2_isLamp ⟨Nat.le_of_ble_eq_true rfl, Nat.le_of_ble_eq_true rfl⟩ (wg_3 g _ _) rfl rfl rfl (Nat.le_of_ble_eq_true rfl) dX9_of_5 rfl (fun r2 X1 h => ?_)
  refine j_if_ne (tgt := 14) (pc' := 11) hκ dX9_of_8 (by decide) rfl (fun c => ?_) (fun c => ?_)
  · replace h := h.1 c
    refine j_iload_n (pc' := 15) hκ 2 rfl rfl dX9_of_14 rfl ?_
    by_cases c0 : p2 = 0
    · replace h := h.1 c0
      refine j_tabEq (v := 0) (tgt := 48) hκ dX9_of_15 c0 (by decide) (by decide) rfl (by decide) ?_
      refine j_aload_n (pc' := 49) hκ 0 rfl rfl dX9_of_48 rfl ?_
      refine jg_0_2 (pc' := 52) hκ (mi inlX9) (fl_in hκ (mc wm_2_0)) dX9_of_49 rfl ?_
      refine jg_3_1 (pc' := 55) hκ (mi inlX2) (fl_ne hκ 11 rfl) dX9_of_52 rfl ?_
      refine j_iload_n (pc' := 56) hκ 1 rfl rfl dX9_of_55 rfl ?_
      refine jx_iald (pc' := 57) hκ (ah_20 g) h.1 dX9_of_56 rfl ?_
      replace h := h.2
      exact hR _ _ _ _ dX9_of_57 h
    replace h := h.2 c0
    by_cases c1 : p2 = 1
    · replace h := h.1 c1
      refine j_tabEq (v := 1) (tgt := 58) hκ dX9_of_15 c1 (by decide) (by decide) rfl (by decide) ?_
      refine j_aload_n (pc' := 59) hκ 0 rfl rfl dX9_of_58 rfl ?_
      refine jg_0_2 (pc' := 62) hκ (mi inlX9) (fl_in hκ (mc wm_2_0)) dX9_of_59 rfl ?_
      refine jg_3_2 (pc' := 65) hκ (mi inlX2) (fl_ne hκ 9 rfl) dX9_of_62 rfl ?_
      refine j_iload_n (pc' := 66) hκ 1 rfl rfl dX9_of_65 rfl ?_
      refine jx_iald (pc' := 67) hκ (ah_21 g) h.1 dX9_of_66 rfl ?_
      replace h := h.2
      exact hR _ _ _ _ dX9_of_67 h
    replace h := h.2 c1
    by_cases c2 : p2 = 2
    · replace h := h.1 c2
      refine j_tabEq (v := 2) (tgt := 68) hκ dX9_of_15 c2 (by decide) (by decide) rfl (by decide) ?_
      refine j_aload_n (pc' := 69) hκ 0 rfl rfl dX9_of_68 rfl ?_
      refine jg_0_2 (pc' := 72) hκ (mi inlX9) (fl_in hκ (mc wm_2_0)) dX9_of_69 rfl ?_
      refine j_iload_n (pc' := 73) hκ 1 rfl rfl dX9_of_72 rfl ?_
      refine jx_callVi (pc' := 76) hκ (c_Lamps_worthOf (dg hκ) h) rfl rfl rfl (gV wm_20_6 wm_20_7 wm_20_8 wm_1_23 wm_20_9) hqV_X2_worthOf ⟨Nat.le_of_ble_eq_true rfl, Nat.le_of_ble_eq_true rfl⟩ (wg_3 g _ _) rfl rfl rfl (Nat.le_of_ble_eq_true rfl) dX9_of_73 rfl (fun r4 X3 h => ?_)
      exact hR _ _ _ _ dX9_of_76 h
    replace h := h.2 c2
    by_cases c3 : p2 = 3
    · replace h := h.1 c3
      refine j_tabEq (v := 3) (tgt := 77) hκ dX9_of_15 c3 (by decide) (by decide) rfl (by decide) ?_
      refine j_aload_n (pc' := 78) hκ 0 rfl rfl dX9_of_77 rfl ?_
      refine jg_0_2 (pc' := 81) hκ (mi inlX9) (fl_in hκ (mc wm_2_0)) dX9_of_78 rfl ?_
      refine j_iload_n (pc' := 82) hκ 1 rfl rfl dX9_of_81 rfl ?_
      refine jx_callVi (pc' := 85) hκ (c_Lamps_isLive (dg hκ) h) rfl rfl rfl (gV wm_17_22 wm_17_23 wm_18_0 wm_1_23 wm_18_1) hqV_X2_isLive ⟨Nat.le_of_ble_eq_true rfl, Nat.le_of_ble_eq_true rfl⟩ (wg_3 g _ _) rfl rfl rfl (Nat.le_of_ble_eq_true rfl) dX9_of_82 rfl (fun r6 X5 h => ?_)
      refine j_if_eq (tgt := 92) (pc' := 88) hκ dX9_of_85 (by decide) rfl (fun c => ?_) (fun c => ?_)
      · replace h := h.1 c
        refine j_iconst (pc' := 93) (v := 1) hκ (by decide) dX9_of_92 rfl ?_
        exact hR _ _ _ _ dX9_of_93 h
      · replace h := h.2 c
        refine j_iconst (pc' := 89) (v := 0) hκ (by decide) dX9_of_88 rfl ?_
        refine j_goto (pc' := 93) hκ (by decide) dX9_of_89 ?_
        exact hR _ _ _ _ dX9_of_93 h
    replace h := h.2 c3
    by_cases c4 : p2 = 4
    · replace h := h.1 c4
      refine j_tabEq (v := 4) (tgt := 94) hκ dX9_of_15 c4 (by decide) (by decide) rfl (by decide) ?_
      refine j_aload_n (pc' := 95) hκ 0 rfl rfl dX9_of_94 rfl ?_
      refine jg_0_2 (pc' := 98) hκ (mi inlX9) (fl_in hκ (mc wm_2_0)) dX9_of_95 rfl ?_
      refine jg_3_4 (pc' := 101) hκ (mi inlX2) (fl_ne hκ 12 rfl) dX9_of_98 rfl ?_
      refine j_iload_n (pc' := 102) hκ 1 rfl rfl dX9_of_101 rfl ?_
      refine jx_iald (pc' := 103) hκ (ah_23 g) h.1 dX9_of_102 rfl ?_
      replace h := h.2
      exact hR _ _ _ _ dX9_of_103 h
    replace h := h.2 c4
    have u0 : ¬ (p2).toInt = 0 := fun e => c0 (Int32.toInt_inj.mp (e.trans (by decide)))
    have u1 : ¬ (p2).toInt = 1 := fun e => c1 (Int32.toInt_inj.mp (e.trans (by decide)))
    have u2 : ¬ (p2).toInt = 2 := fun e => c2 (Int32.toInt_inj.mp (e.trans (by decide)))
    have u3 : ¬ (p2).toInt = 3 := fun e => c3 (Int32.toInt_inj.mp (e.trans (by decide)))
    have u4 : ¬ (p2).toInt = 4 := fun e => c4 (Int32.toInt_inj.mp (e.trans (by decide)))
    refine j_tabOut (tgt := 104) hκ dX9_of_15 (by omega) (by decide) ?_
    refine j_ldc (pc' := 106) hκ (mc wm_20_5) dX9_of_104 rfl ?_
    exact hR _ _ _ _ dX9_of_106 h
  · replace h := h.2 c
    refine j_ldc (pc' := 13) hκ (mc wm_20_5) dX9_of_11 rfl ?_
    exact hR _ _ _ _ dX9_of_13 h
theorem c_LR_of {g : Gx} (hg : Dg g) {X M : ST} {p1 : Int32} {p2 : Int32} {post : Int32 → ST → Prop} (h : wp_LR_of X p1 p2 post) (l : Launch) : Met l yX9_of wq_X9_of rm_LR_of (va_Pc [.ref (g.2.1 0), .int p1, .int p2] (PU g X M)) (va_Qi post (fun Y t => va_P g.1 vwCl (ww g Y M) t.heap) (wA g)) 0 0 (wA g) :=
  met_xi hg (by decide) rfl [.ref (g.2.1 0), .int p1, .int p2] rfl (Nat.le_of_ble_eq_true rfl) (fun κ hκ hR => lb_LR_of hκ hR h) l
theorem wm_21_3 : Cond.constant RJ6 265 (1431655765) ∈ wAll := inr_21 (List.mem_of_getElem? (i := 3) rfl)
theorem wm_21_4 : Cond.constant RJ6 266 (858993459) ∈ wAll := inr_21 (List.mem_of_getElem? (i := 4) rfl)
theorem wm_21_5 : Cond.constant RJ6 267 (252645135) ∈ wAll := inr_21 (List.mem_of_getElem? (i := 5) rfl)
abbrev rm_int_bitCount : Room := { frames := 0, cells := 0, slots := 0, locals := 0 }
def wp_int_bitCount (X : ST) (p0 : Int32) (post : Int32 → ST → Prop) : Prop :=
  ∀ v1 : Int32, v1 = p0 - (((p0.toUInt32 >>> ((1 : Int32).toUInt32 &&& Int32.toUInt32 31)).toInt32) &&& 1431655765) → ∀ v2 : Int32, v2 = (v1 &&& 858993459) + (((v1.toUInt32 >>> ((2 : Int32).toUInt32 &&& Int32.toUInt32 31)).toInt32) &&& 858993459) → ∀ v3 : Int32, v3 = (v2 + ((v2.toUInt32 >>> ((4 : Int32).toUInt32 &&& Int32.toUInt32 31)).toInt32)) &&& 252645135 → ∀ v4 : Int32, v4 = v3 + ((v3.toUInt32 >>> ((8 : Int32).toUInt32 &&& Int32.toUInt32 31)).toInt32) → ∀ v5 : Int32, v5 = v4 + ((v4.toUInt32 >>> ((16 : Int32).toUInt32 &&& Int32.toUInt32 31)).toInt32) → post (v5 &&& 63) X
set_option maxHeartbeats 4000000 in
set_option maxRecDepth 100000 in
theorem lb_int_bitCount {κ : Cx} {g : Gx} {M : ST} (hκ : CF κ g RJ6 cJ6_bitCount_0f7a4 wq_J6_bitCount_0f7a4 1 rm_int_bitCount) {post : Int32 → ST → Prop} (hR : RtxI κ g 1 cJ6_bitCount_0f7a4 M post) {X : ST} {p0 : Int32} (h : wp_int_bitCount X p0 post) : Jw κ g 1 X M [(0, .int p0)] 0 [] := by
  unfold wp_int_bitCount at h
  refine j_iload_n (pc' := 1) hκ 0 rfl rfl dJ6_bitCount_0f7a4_0 rfl ?_
  refine j_iload_n (pc' := 2) hκ 0 rfl rfl dJ6_bitCount_0f7a4_1 rfl ?_
  refine j_iconst (pc' := 3) (v := 1) hκ (by decide) dJ6_bitCount_0f7a4_2 rfl ?_
  refine j_iushr (pc' := 4) hκ dJ6_bitCount_0f7a4_3 rfl ?_
  refine j_ldc_w (pc' := 7) hκ (mc wm_21_3) dJ6_bitCount_0f7a4_4 rfl ?_
  refine j_iand (pc' := 8) hκ dJ6_bitCount_0f7a4_7 rfl ?_
  refine j_isub (pc' := 9) hκ dJ6_bitCount_0f7a4_8 rfl ?_
  refine j_topi (fun v1 ev1 => ?_)
  replace h := h v1 ev1
  refine j_istore_n (pc' := 10) (lv' := [(0, .int v1)]) hκ (Nat.le_of_ble_eq_true rfl) rfl rfl dJ6_bitCount_0f7a4_9 rfl ?_
  refine j_iload_n (pc' := 11) hκ 0 rfl rfl dJ6_bitCount_0f7a4_10 rfl ?_
  refine j_ldc_w (pc' := 14) hκ (mc wm_21_4) dJ6_bitCount_0f7a4_11 rfl ?_
  refine j_iand (pc' := 15) hκ dJ6_bitCount_0f7a4_14 rfl ?_
  refine j_iload_n (pc' := 16) hκ 0 rfl rfl dJ6_bitCount_0f7a4_15 rfl ?_
  refine j_iconst (pc' := 17) (v := 2) hκ (by decide) dJ6_bitCount_0f7a4_16 rfl ?_
  refine j_iushr (pc' := 18) hκ dJ6_bitCount_0f7a4_17 rfl ?_
  refine j_ldc_w (pc' := 21) hκ (mc wm_21_4) dJ6_bitCount_0f7a4_18 rfl ?_
  refine j_iand (pc' := 22) hκ dJ6_bitCount_0f7a4_21 rfl ?_
  refine j_iadd (pc' := 23) hκ dJ6_bitCount_0f7a4_22 rfl ?_
  refine j_topi (fun v2 ev2 => ?_)
  replace h := h v2 ev2
  refine j_istore_n (pc' := 24) (lv' := [(0, .int v2)]) hκ (Nat.le_of_ble_eq_true rfl) rfl rfl dJ6_bitCount_0f7a4_23 rfl ?_
  refine j_iload_n (pc' := 25) hκ 0 rfl rfl dJ6_bitCount_0f7a4_24 rfl ?_
  refine j_iload_n (pc' := 26) hκ 0 rfl rfl dJ6_bitCount_0f7a4_25 rfl ?_
  refine j_iconst (pc' := 27) (v := 4) hκ (by decide) dJ6_bitCount_0f7a4_26 rfl ?_
  refine j_iushr (pc' := 28) hκ dJ6_bitCount_0f7a4_27 rfl ?_
  refine j_iadd (pc' := 29) hκ dJ6_bitCount_0f7a4_28 rfl ?_
  refine j_ldc_w (pc' := 32) hκ (mc wm_21_5) dJ6_bitCount_0f7a4_29 rfl ?_
  refine j_iand (pc' := 33) hκ dJ6_bitCount_0f7a4_32 rfl ?_
  refine j_topi (fun v3 ev3 => ?_)
  replace h := h v3 ev3
  refine j_istore_n (pc' := 34) (lv' := [(0, .int v3)]) hκ (Nat.le_of_ble_eq_true rfl) rfl rfl dJ6_bitCount_0f7a4_33 rfl ?_
  refine j_iload_n (pc' := 35) hκ 0 rfl rfl dJ6_bitCount_0f7a4_34 rfl ?_
  refine j_iload_n (pc' := 36) hκ 0 rfl rfl dJ6_bitCount_0f7a4_35 rfl ?_
  refine j_bipush (pc' := 38) (v := 8) hκ (by decide) dJ6_bitCount_0f7a4_36 rfl ?_
  refine j_iushr (pc' := 39) hκ dJ6_bitCount_0f7a4_38 rfl ?_
  refine j_iadd (pc' := 40) hκ dJ6_bitCount_0f7a4_39 rfl ?_
  refine j_topi (fun v4 ev4 => ?_)
  replace h := h v4 ev4
  refine j_istore_n (pc' := 41) (lv' := [(0, .int v4)]) hκ (Nat.le_of_ble_eq_true rfl) rfl rfl dJ6_bitCount_0f7a4_40 rfl ?_
  refine j_iload_n (pc' := 42) hκ 0 rfl rfl dJ6_bitCount_0f7a4_41 rfl ?_
  refine j_iload_n (pc' := 43) hκ 0 rfl rfl dJ6_bitCount_0f7a4_42 rfl ?_
  refine j_bipush (pc' := 45) (v := 16) hκ (by decide) dJ6_bitCount_0f7a4_43 rfl ?_
  refine j_iushr (pc' := 46) hκ dJ6_bitCount_0f7a4_45 rfl ?_
  refine j_iadd (pc' := 47) hκ dJ6_bitCount_0f7a4_46 rfl ?_
  refine j_topi (fun v5 ev5 => ?_)
  replace h := h v5 ev5
  refine j_istore_n (pc' := 48) (lv' := [(0, .int v5)]) hκ (Nat.le_of_ble_eq_true rfl) rfl rfl dJ6_bitCount_0f7a4_47 rfl ?_
  refine j_iload_n (pc' := 49) hκ 0 rfl rfl dJ6_bitCount_0f7a4_48 rfl ?_
  refine j_bipush (pc' := 51) (v := 63) hκ (by decide) dJ6_bitCount_0f7a4_49 rfl ?_
  refine j_iand (pc' := 52) hκ dJ6_bitCount_0f7a4_51 rfl ?_
  exact hR _ _ _ _ dJ6_bitCount_0f7a4_52 h
theorem c_int_bitCount {g : Gx} (hg : Dg g) {X M : ST} {p0 : Int32} {post : Int32 → ST → Prop} (h : wp_int_bitCount X p0 post) (l : Launch) : Met l yJ6_bitCount_0f7a4 wq_J6_bitCount_0f7a4 rm_int_bitCount (va_Pc [.int p0] (PU g X M)) (va_Qi post (fun Y t => va_P g.1 vwCl (ww g Y M) t.heap) (wA g)) 0 0 (wA g) :=
  met_xi hg (by decide) rfl [.int p0] rfl (Nat.le_of_ble_eq_true rfl) (fun κ hκ hR => lb_int_bitCount hκ hR h) l
theorem wm_20_23 : Cond.methodLink RX2 58 yJ6_bitCount_0f7a4 ∈ wAll := inr_20 (List.mem_of_getElem? (i := 23) rfl)
theorem wm_21_0 : Cond.static yJ6_bitCount_0f7a4 ∈ wAll := inr_21 (List.mem_of_getElem? (i := 0) rfl)
theorem wm_21_1 : Cond.initialized RJ6 ∈ wAll := inr_21 (List.mem_of_getElem? (i := 1) rfl)
theorem wm_21_2 : Cond.code yJ6_bitCount_0f7a4 cJ6_bitCount_0f7a4 1 (some .int) ∈ wAll := inr_21 (List.mem_of_getElem? (i := 2) rfl)
theorem hqS_J6_bitCount_0f7a4 : yJ6_bitCount_0f7a4.cls ≠ "java/lang/invoke/MethodHandle" ∧ yJ6_bitCount_0f7a4.cls ≠ "java/lang/invoke/VarHandle" ∧ (parseMethodDescriptor yJ6_bitCount_0f7a4.desc).map (fun d => d.parameters.length) = some 1 := by decide +kernel
abbrev rm_Lamps_liveCount : Room := { frames := 1, cells := 0, slots := 0, locals := 20 }
def wp_Lamps_liveCount (X : ST) (post : Int32 → ST → Prop) : Prop :=
  wp_int_bitCount X (x_Lamps_live X) (fun r2 X1 => post r2 X1)
set_option maxHeartbeats 4000000 in
set_option maxRecDepth 100000 in
theorem lb_Lamps_liveCount {κ : Cx} {g : Gx} {M : ST} (hκ : CF κ g RX2 cX2_liveCount wq_X2_liveCount 1 rm_Lamps_liveCount) {post : Int32 → ST → Prop} (hR : RtxI κ g 1 cX2_liveCount M post) {X : ST} (h : wp_Lamps_liveCount X post) : Jw κ g 1 X M [(0, .ref (g.2.1 3))] 0 [] := by
  unfold wp_Lamps_liveCount at h
  refine j_aload_n (pc' := 1) hκ 0 rfl rfl dX2_liveCount_0 rfl ?_
  refine jg_3_8 (pc' := 4) hκ (mi inlX2) (fl_in hκ (mc wm_4_16)) dX2_liveCount_1 rfl ?_
  refine jx_callSi (pc' := 7) hκ (c_int_bitCount (dg hκ) h) rfl rfl rfl (gS wm_20_23 wm_21_0 wm_21_1 wm_21_2) hqS_J6_bitCount_0f7a4 ⟨Nat.le_of_ble_eq_true rfl, Nat.le_of_ble_eq_true rfl⟩ rfl rfl (Nat.le_of_ble_eq_true rfl) dX2_liveCount_4 rfl (fun r2 X1 h => ?_)
  exact hR _ _ _ _ dX2_liveCount_7 h
theorem c_Lamps_liveCount {g : Gx} (hg : Dg g) {X M : ST} {post : Int32 → ST → Prop} (h : wp_Lamps_liveCount X post) (l : Launch) : Met l yX2_liveCount wq_X2_liveCount rm_Lamps_liveCount (va_Pc [.ref (g.2.1 3)] (PU g X M)) (va_Qi post (fun Y t => va_P g.1 vwCl (ww g Y M) t.heap) (wA g)) 0 0 (wA g) :=
  met_xi hg (by decide) rfl [.ref (g.2.1 3)] rfl (Nat.le_of_ble_eq_true rfl) (fun κ hκ hR => lb_Lamps_liveCount hκ hR h) l
theorem wm_20_19 : Cond.methodLink RX9 202 yX2_liveCount ∈ wAll := inr_20 (List.mem_of_getElem? (i := 19) rfl)
theorem wm_20_20 : Cond.instanceMethod yX2_liveCount ∈ wAll := inr_20 (List.mem_of_getElem? (i := 20) rfl)
theorem wm_20_21 : Cond.selects RX2 yX2_liveCount yX2_liveCount ∈ wAll := inr_20 (List.mem_of_getElem? (i := 21) rfl)
theorem wm_20_22 : Cond.code yX2_liveCount cX2_liveCount 1 (some .int) ∈ wAll := inr_20 (List.mem_of_getElem? (i := 22) rfl)
theorem hqV_X2_liveCount : yX2_liveCount.cls = RX2 ∧ yX2_liveCount.cls ≠ "java/lang/invoke/MethodHandle" ∧ yX2_liveCount.cls ≠ "java/lang/invoke/VarHandle" ∧ (parseMethodDescriptor yX2_liveCount.desc).map (fun d => d.parameters.length) = some 0 := by decide +kernel
theorem wm_3_0 : Cond.fieldLink RX9 76 "LampRound" "proof" "LLampRound$Lines;" ∈ wAll := inr_3 (List.mem_of_getElem? (i := 0) rfl)
theorem wm_21_10 : Cond.methodLink RX2 64 yX2_worthOf ∈ wAll := inr_21 (List.mem_of_getElem? (i := 10) rfl)
abbrev rm_Lamps_worthOfLive : Room := { frames := 1, cells := 0, slots := 0, locals := 21 }
def wp_Lamps_worthOfLive_4_s (K37 : ST → Int32 → Prop) (post : Int32 → ST → Prop) (rec : ST → Int32 → Int32 → Prop) (X : ST) (l1 : Int32) (l2 : Int32) : Prop :=
  ((x_Lamps_count X) ≤ l2 → (K37 X l1)) ∧ (¬ (x_Lamps_count X) ≤ l2 → (wp_LR_isIn X (x_Lamps_live X) l2 (fun r2 X1 => (r2 = 0 → (rec X1 l1 (l2 + 1))) ∧ (¬ r2 = 0 → (wp_Lamps_worthOf X1 l2 (fun r4 X3 => ∀ v5 : Int32, v5 = l1 + r4 → rec X3 v5 (l2 + 1)))))))
def wp_Lamps_worthOfLive_4 (K37 : ST → Int32 → Prop) (post : Int32 → ST → Prop) : Nat → ST → Int32 → Int32 → Prop
  | 0 => fun _ _ _ => False
  | n + 1 => wp_Lamps_worthOfLive_4_s K37 post (wp_Lamps_worthOfLive_4 K37 post n)
set_option maxHeartbeats 4000000 in
set_option maxRecDepth 100000 in
theorem lb_Lamps_worthOfLive_4 {κ : Cx} {g : Gx} {M : ST} (hκ : CF κ g RX2 cX2_worthOfLive wq_X2_worthOfLive 3 rm_Lamps_worthOfLive) {post : Int32 → ST → Prop} (hR : RtxI κ g 3 cX2_worthOfLive M post) {K37 : ST → Int32 → Prop} (hK37 : ∀ (X : ST) (l1 : Int32), K37 X l1 → Jw κ g 3 X M [(1, .int l1)] 37 []) : ∀ (n : Nat) (X : ST) (l1 : Int32) (l2 : Int32), wp_Lamps_worthOfLive_4 K37 post n X l1 l2 → Jw κ g 3 X M [(0, .ref (g.2.1 3)), (1, .int l1), (2, .int l2)] 4 [] := by
  intro n
  induction n with
  | zero =>
    intro X l1 l2  h
    exact h.elim
  | succ n ih =>
    intro X l1 l2  h
    have h : wp_Lamps_worthOfLive_4_s K37 post (wp_Lamps_worthOfLive_4 K37 post n) X l1 l2 := h
    unfold wp_Lamps_worthOfLive_4_s at h
    refine j_iload_n (pc' := 5) hκ 2 rfl rfl dX2_worthOfLive_4 rfl ?_
    refine j_aload_n (pc' := 6) hκ 0 rfl rfl dX2_worthOfLive_5 rfl ?_
    refine jg_3_9 (pc' := 9) hκ (mi inlX2) (fl_in hκ (mc wm_4_17)) dX2_worthOfLive_6 rfl ?_
    refine j_icmp_ge (tgt := 37) (pc' := 12) hκ dX2_worthOfLive_9 (by decide) rfl (fun c => ?_) (fun c => ?_)
    · replace h := h.1 c
      refine j_sub [1] rfl ?_
      exact hK37 _ _  h
    · replace h := h.2 c
      refine j_aload_n (pc' := 13) hκ 0 rfl rfl dX2_worthOfLive_12 rfl ?_
      refine jg_3_8 (pc' := 16) hκ (mi inlX2) (fl_in hκ (mc wm_4_16)) dX2_worthOfLive_13 rfl ?_
      refine j_iload_n (pc' := 17) hκ 2 rfl rfl dX2_worthOfLive_16 rfl ?_
      refine jx_callNi (pc' := 20) hκ (c_LR_isIn (dg hκ) h) rfl rfl rfl (gN wm_18_4) 10 rfl (mc wm_1_2) (mc wm_18_3) hqS_X9_isIn ⟨Nat.le_of_ble_eq_true rfl, Nat.le_of_ble_eq_true rfl⟩ rfl rfl (Nat.le_of_ble_eq_true rfl) dX2_worthOfLive_17 rfl (fun r2 X1 h => ?_)
      refine j_if_eq (tgt := 31) (pc' := 23) hκ dX2_worthOfLive_20 (by decide) rfl (fun c => ?_) (fun c => ?_)
      · replace h := h.1 c
        refine j_iinc (pc' := 34) (v := l2 + 1) (lv' := [(2, .int (l2 + 1)), (0, .ref (g.2.1 3)), (1, .int l1)]) hκ 2 rfl rfl (Nat.le_of_ble_eq_true rfl) rfl dX2_worthOfLive_31 rfl ?_
        refine j_goto (pc' := 4) hκ (by decide) dX2_worthOfLive_34 ?_
        refine j_sub [1, 2, 0] rfl ?_
        exact ih _ _ _  h
      · replace h := h.2 c
        refine j_iload_n (pc' := 24) hκ 1 rfl rfl dX2_worthOfLive_23 rfl ?_
        refine j_aload_n (pc' := 25) hκ 0 rfl rfl dX2_worthOfLive_24 rfl ?_
        refine j_iload_n (pc' := 26) hκ 2 rfl rfl dX2_worthOfLive_25 rfl ?_
        refine jx_callVi (pc' := 29) hκ (c_Lamps_worthOf (dg hκ) h) rfl rfl rfl (gV wm_21_10 wm_20_7 wm_20_8 wm_1_23 wm_20_9) hqV_X2_worthOf ⟨Nat.le_of_ble_eq_true rfl, Nat.le_of_ble_eq_true rfl⟩ (wg_3 g _ _) rfl rfl rfl (Nat.le_of_ble_eq_true rfl) dX2_worthOfLive_26 rfl (fun r4 X3 h => ?_)
        refine j_iadd (pc' := 30) hκ dX2_worthOfLive_29 rfl ?_
        refine j_topi (fun v5 ev5 => ?_)
        replace h := h v5 ev5
        refine j_istore_n (pc' := 31) (lv' := [(1, .int v5), (0, .ref (g.2.1 3)), (2, .int l2)]) hκ (Nat.le_of_ble_eq_true rfl) rfl rfl dX2_worthOfLive_30 rfl ?_
        refine j_iinc (pc' := 34) (v := l2 + 1) (lv' := [(2, .int (l2 + 1)), (1, .int v5), (0, .ref (g.2.1 3))]) hκ 2 rfl rfl (Nat.le_of_ble_eq_true rfl) rfl dX2_worthOfLive_31 rfl ?_
        refine j_goto (pc' := 4) hκ (by decide) dX2_worthOfLive_34 ?_
        refine j_sub [2, 1, 0] rfl ?_
        exact ih _ _ _  h
def wp_Lamps_worthOfLive (X : ST) (post : Int32 → ST → Prop) : Prop :=
  ∃ n, wp_Lamps_worthOfLive_4 (fun X6 v7 => post v7 X6) post n X 0 0
set_option maxHeartbeats 4000000 in
set_option maxRecDepth 100000 in
theorem lb_Lamps_worthOfLive {κ : Cx} {g : Gx} {M : ST} (hκ : CF κ g RX2 cX2_worthOfLive wq_X2_worthOfLive 3 rm_Lamps_worthOfLive) {post : Int32 → ST → Prop} (hR : RtxI κ g 3 cX2_worthOfLive M post) {X : ST} (h : wp_Lamps_worthOfLive X post) : Jw κ g 3 X M [(0, .ref (g.2.1 3))] 0 [] := by
  unfold wp_Lamps_worthOfLive at h
  refine j_iconst (pc' := 1) (v := 0) hκ (by decide) dX2_worthOfLive_0 rfl ?_
  refine j_istore_n (pc' := 2) (lv' := [(1, .int 0), (0, .ref (g.2.1 3))]) hκ (Nat.le_of_ble_eq_true rfl) rfl rfl dX2_worthOfLive_1 rfl ?_
  refine j_iconst (pc' := 3) (v := 0) hκ (by decide) dX2_worthOfLive_2 rfl ?_
  refine j_istore_n (pc' := 4) (lv' := [(2, .int 0), (1, .int 0), (0, .ref (g.2.1 3))]) hκ (Nat.le_of_ble_eq_true rfl) rfl rfl dX2_worthOfLive_3 rfl ?_
  obtain ⟨n, h⟩ := h
  refine j_sub [2, 1, 0] rfl ?_
  refine lb_Lamps_worthOfLive_4 hκ hR ?_ n _ _ _  h
  intro X6 v7  h
  refine j_iload_n (pc' := 38) hκ 0 rfl rfl dX2_worthOfLive_37 rfl ?_
  exact hR _ _ _ _ dX2_worthOfLive_38 h
theorem c_Lamps_worthOfLive {g : Gx} (hg : Dg g) {X M : ST} {post : Int32 → ST → Prop} (h : wp_Lamps_worthOfLive X post) (l : Launch) : Met l yX2_worthOfLive wq_X2_worthOfLive rm_Lamps_worthOfLive (va_Pc [.ref (g.2.1 3)] (PU g X M)) (va_Qi post (fun Y t => va_P g.1 vwCl (ww g Y M) t.heap) (wA g)) 0 0 (wA g) :=
  met_xi hg (by decide) rfl [.ref (g.2.1 3)] rfl (Nat.le_of_ble_eq_true rfl) (fun κ hκ hR => lb_Lamps_worthOfLive hκ hR h) l
theorem wm_21_6 : Cond.methodLink RX9 208 yX2_worthOfLive ∈ wAll := inr_21 (List.mem_of_getElem? (i := 6) rfl)
theorem wm_21_7 : Cond.instanceMethod yX2_worthOfLive ∈ wAll := inr_21 (List.mem_of_getElem? (i := 7) rfl)
theorem wm_21_8 : Cond.selects RX2 yX2_worthOfLive yX2_worthOfLive ∈ wAll := inr_21 (List.mem_of_getElem? (i := 8) rfl)
theorem wm_21_9 : Cond.code yX2_worthOfLive cX2_worthOfLive 3 (some .int) ∈ wAll := inr_21 (List.mem_of_getElem? (i := 9) rfl)
theorem hqV_X2_worthOfLive : yX2_worthOfLive.cls = RX2 ∧ yX2_worthOfLive.cls ≠ "java/lang/invoke/MethodHandle" ∧ yX2_worthOfLive.cls ≠ "java/lang/invoke/VarHandle" ∧ (parseMethodDescriptor yX2_worthOfLive.desc).map (fun d => d.parameters.length) = some 0 := by decide +kernel
abbrev rm_LR_many : Room := { frames := 2, cells := 0, slots := 0, locals := 43 }
def wp_LR_many (X : ST) (p1 : Int32) (post : Int32 → ST → Prop) : Prop :=
  (p1 = 0 → (post (x_Town_count X) X)) ∧ (¬ p1 = 0 → ((p1 = 1 → (post (x_Lamps_count X) X)) ∧ (¬ p1 = 1 → ((p1 = 2 → (wp_Lamps_liveCount X (fun r2 X1 => post r2 X1))) ∧ (¬ p1 = 2 → ((p1 = 3 → (post (x_proof_count X) X)) ∧ (¬ p1 = 3 → ((p1 = 4 → (post (x_Told_count X) X)) ∧ (¬ p1 = 4 → ((p1 = 5 → (wp_Lamps_worthOfLive X (fun r4 X3 => post r4 X3))) ∧ (¬ p1 = 5 → (post (-1) X))))))))))))
set_option maxHeartbeats 4000000 in
set_option maxRecDepth 100000 in
theorem lb_LR_many {κ : Cx} {g : Gx} {M : ST} (hκ : CF κ g RX9 cX9_many wq_X9_many 2 rm_LR_many) {post : Int32 → ST → Prop} (hR : RtxI κ g 2 cX9_many M post) {X : ST} {p1 : Int32} (h : wp_LR_many X p1 post) : Jw κ g 2 X M [(0, .ref (g.2.1 0)), (1, .int p1)] 0 [] := by
  unfold wp_LR_many at h
  refine j_iload_n (pc' := 1) hκ 1 rfl rfl dX9_many_0 rfl ?_
  by_cases c0 : p1 = 0
  · replace h := h.1 c0
    refine j_tabEq (v := 0) (tgt := 40) hκ dX9_many_1 c0 (by decide) (by decide) rfl (by decide) ?_
    refine j_aload_n (pc' := 41) hκ 0 rfl rfl dX9_many_40 rfl ?_
    refine jg_0_1 (pc' := 44) hκ (mi inlX9) (fl_in hκ (mc wm_1_20)) dX9_many_41 rfl ?_
    refine jg_2_6 (pc' := 47) hκ (mi inlX7) (fl_ne hκ 0 rfl) dX9_many_44 rfl ?_
    exact hR _ _ _ _ dX9_many_47 h
  replace h := h.2 c0
  by_cases c1 : p1 = 1
  · replace h := h.1 c1
    refine j_tabEq (v := 1) (tgt := 48) hκ dX9_many_1 c1 (by decide) (by decide) rfl (by decide) ?_
    refine j_aload_n (pc' := 49) hκ 0 rfl rfl dX9_many_48 rfl ?_
    refine jg_0_2 (pc' := 52) hκ (mi inlX9) (fl_in hκ (mc wm_2_0)) dX9_many_49 rfl ?_
    refine jg_3_9 (pc' := 55) hκ (mi inlX2) (fl_ne hκ 8 rfl) dX9_many_52 rfl ?_
    exact hR _ _ _ _ dX9_many_55 h
  replace h := h.2 c1
  by_cases c2 : p1 = 2
  · replace h := h.1 c2
    refine j_tabEq (v := 2) (tgt := 56) hκ dX9_many_1 c2 (by decide) (by decide) rfl (by decide) ?_
    refine j_aload_n (pc' := 57) hκ 0 rfl rfl dX9_many_56 rfl ?_
    refine jg_0_2 (pc' := 60) hκ (mi inlX9) (fl_in hκ (mc wm_2_0)) dX9_many_57 rfl ?_
    refine jx_callVi (pc' := 63) hκ (c_Lamps_liveCount (dg hκ) h) rfl rfl rfl (gV wm_20_19 wm_20_20 wm_20_21 wm_1_23 wm_20_22) hqV_X2_liveCount ⟨Nat.le_of_ble_eq_true rfl, Nat.le_of_ble_eq_true rfl⟩ (wg_3 g _ _) rfl rfl rfl (Nat.le_of_ble_eq_true rfl) dX9_many_60 rfl (fun r2 X1 h => ?_)
    exact hR _ _ _ _ dX9_many_63 h
  replace h := h.2 c2
  by_cases c3 : p1 = 3
  · replace h := h.1 c3
    refine j_tabEq (v := 3) (tgt := 64) hκ dX9_many_1 c3 (by decide) (by decide) rfl (by decide) ?_
    refine j_aload_n (pc' := 65) hκ 0 rfl rfl dX9_many_64 rfl ?_
    refine jg_0_8 (pc' := 68) hκ (mi inlX9) (fl_in hκ (mc wm_3_0)) dX9_many_65 rfl ?_
    refine jg_9_3 (pc' := 71) hκ (mi inlX3) (fl_ne hκ 13 rfl) dX9_many_68 rfl ?_
    exact hR _ _ _ _ dX9_many_71 h
  replace h := h.2 c3
  by_cases c4 : p1 = 4
  · replace h := h.1 c4
    refine j_tabEq (v := 4) (tgt := 72) hκ dX9_many_1 c4 (by decide) (by decide) rfl (by decide) ?_
    refine j_aload_n (pc' := 73) hκ 0 rfl rfl dX9_many_72 rfl ?_
    refine jg_0_3 (pc' := 76) hκ (mi inlX9) (fl_in hκ (mc wm_2_4)) dX9_many_73 rfl ?_
    refine jg_4_2 (pc' := 79) hκ (mi inlX6) (fl_ne hκ 14 rfl) dX9_many_76 rfl ?_
    exact hR _ _ _ _ dX9_many_79 h
  replace h := h.2 c4
  by_cases c5 : p1 = 5
  · replace h := h.1 c5
    refine j_tabEq (v := 5) (tgt := 80) hκ dX9_many_1 c5 (by decide) (by decide) rfl (by decide) ?_
    refine j_aload_n (pc' := 81) hκ 0 rfl rfl dX9_many_80 rfl ?_
    refine jg_0_2 (pc' := 84) hκ (mi inlX9) (fl_in hκ (mc wm_2_0)) dX9_many_81 rfl ?_
    refine jx_callVi (pc' := 87) hκ (c_Lamps_worthOfLive (dg hκ) h) rfl rfl rfl (gV wm_21_6 wm_21_7 wm_21_8 wm_1_23 wm_21_9) hqV_X2_worthOfLive ⟨Nat.le_of_ble_eq_true rfl, Nat.le_of_ble_eq_true rfl⟩ (wg_3 g _ _) rfl rfl rfl (Nat.le_of_ble_eq_true rfl) dX9_many_84 rfl (fun r4 X3 h => ?_)
    exact hR _ _ _ _ dX9_many_87 h
  replace h := h.2 c5
  have u0 : ¬ (p1).toInt = 0 := fun e => c0 (Int32.toInt_inj.mp (e.trans (by decide)))
  have u1 : ¬ (p1).toInt = 1 := fun e => c1 (Int32.toInt_inj.mp (e.trans (by decide)))
  have u2 : ¬ (p1).toInt = 2 := fun e => c2 (Int32.toInt_inj.mp (e.trans (by decide)))
  have u3 : ¬ (p1).toInt = 3 := fun e => c3 (Int32.toInt_inj.mp (e.trans (by decide)))
  have u4 : ¬ (p1).toInt = 4 := fun e => c4 (Int32.toInt_inj.mp (e.trans (by decide)))
  have u5 : ¬ (p1).toInt = 5 := fun e => c5 (Int32.toInt_inj.mp (e.trans (by decide)))
  refine j_tabOut (tgt := 88) hκ dX9_many_1 (by omega) (by decide) ?_
  refine j_iconst (pc' := 89) (v := (-1)) hκ (by decide) dX9_many_88 rfl ?_
  exact hR _ _ _ _ dX9_many_89 h
theorem c_LR_many {g : Gx} (hg : Dg g) {X M : ST} {p1 : Int32} {post : Int32 → ST → Prop} (h : wp_LR_many X p1 post) (l : Launch) : Met l yX9_many wq_X9_many rm_LR_many (va_Pc [.ref (g.2.1 0), .int p1] (PU g X M)) (va_Qi post (fun Y t => va_P g.1 vwCl (ww g Y M) t.heap) (wA g)) 0 0 (wA g) :=
  met_xi hg (by decide) rfl [.ref (g.2.1 0), .int p1] rfl (Nat.le_of_ble_eq_true rfl) (fun κ hκ hR => lb_LR_many hκ hR h) l
abbrev rm_LR_isLarge : Room := { frames := 2, cells := 0, slots := 0, locals := 40 }
def wp_LR_isLarge (X : ST) (post : Int32 → ST → Prop) : Prop :=
  wp_Lamps_liveCount X (fun r2 X1 => (r2 ≤ 8 → (post 0 X1)) ∧ (¬ r2 ≤ 8 → (post 1 X1)))
set_option maxHeartbeats 4000000 in
set_option maxRecDepth 100000 in
theorem lb_LR_isLarge {κ : Cx} {g : Gx} {M : ST} (hκ : CF κ g RX9 cX9_isLarge wq_X9_isLarge 1 rm_LR_isLarge) {post : Int32 → ST → Prop} (hR : RtxZ κ g 1 cX9_isLarge M post) {X : ST} (h : wp_LR_isLarge X post) : Jw κ g 1 X M [(0, .ref (g.2.1 0))] 0 [] := by
  unfold wp_LR_isLarge at h
  refine j_aload_n (pc' := 1) hκ 0 rfl rfl dX9_isLarge_0 rfl ?_
  refine jg_0_2 (pc' := 4) hκ (mi inlX9) (fl_in hκ (mc wm_2_0)) dX9_isLarge_1 rfl ?_
  refine jx_callVi (pc' := 7) hκ (c_Lamps_liveCount (dg hκ) h) rfl rfl rfl (gV wm_20_19 wm_20_20 wm_20_21 wm_1_23 wm_20_22) hqV_X2_liveCount ⟨Nat.le_of_ble_eq_true rfl, Nat.le_of_ble_eq_true rfl⟩ (wg_3 g _ _) rfl rfl rfl (Nat.le_of_ble_eq_true rfl) dX9_isLarge_4 rfl (fun r2 X1 h => ?_)
  refine j_bipush (pc' := 9) (v := 8) hκ (by decide) dX9_isLarge_7 rfl ?_
  refine j_icmp_le (tgt := 16) (pc' := 12) hκ dX9_isLarge_9 (by decide) rfl (fun c => ?_) (fun c => ?_)
  · replace h := h.1 c
    refine j_iconst (pc' := 17) (v := 0) hκ (by decide) dX9_isLarge_16 rfl ?_
    exact hR _ _ _ _ dX9_isLarge_17 (Or.inl rfl) h
  · replace h := h.2 c
    refine j_iconst (pc' := 13) (v := 1) hκ (by decide) dX9_isLarge_12 rfl ?_
    refine j_goto (pc' := 17) hκ (by decide) dX9_isLarge_13 ?_
    exact hR _ _ _ _ dX9_isLarge_17 (Or.inr rfl) h
theorem c_LR_isLarge {g : Gx} (hg : Dg g) {X M : ST} {post : Int32 → ST → Prop} (h : wp_LR_isLarge X post) (l : Launch) : Met l yX9_isLarge wq_X9_isLarge rm_LR_isLarge (va_Pc [.ref (g.2.1 0)] (PU g X M)) (va_Qi post (fun Y t => va_P g.1 vwCl (ww g Y M) t.heap) (wA g)) 0 0 (wA g) :=
  met_xz hg (by decide) rfl [.ref (g.2.1 0)] rfl (Nat.le_of_ble_eq_true rfl) (fun κ hκ hR => lb_LR_isLarge hκ hR h) l
theorem wm_22_0 : Cond.methodLink RX9 211 yX9_isLarge ∈ wAll := inr_22 (List.mem_of_getElem? (i := 0) rfl)
theorem wm_22_1 : Cond.instanceMethod yX9_isLarge ∈ wAll := inr_22 (List.mem_of_getElem? (i := 1) rfl)
theorem wm_22_2 : Cond.selects RX9 yX9_isLarge yX9_isLarge ∈ wAll := inr_22 (List.mem_of_getElem? (i := 2) rfl)
theorem wm_22_3 : Cond.code yX9_isLarge cX9_isLarge 1 (some .boolean) ∈ wAll := inr_22 (List.mem_of_getElem? (i := 3) rfl)
theorem hqV_X9_isLarge : yX9_isLarge.cls = RX9 ∧ yX9_isLarge.cls ≠ "java/lang/invoke/MethodHandle" ∧ yX9_isLarge.cls ≠ "java/lang/invoke/VarHandle" ∧ (parseMethodDescriptor yX9_isLarge.desc).map (fun d => d.parameters.length) = some 0 := by decide +kernel
theorem wm_2_8 : Cond.fieldLink RX9 44 "LampRound" "search" "LLampRound$Search;" ∈ wAll := inr_2 (List.mem_of_getElem? (i := 8) rfl)
theorem wm_5_17 : Cond.fieldLink RX5 42 "LampRound$Search" "lamps" "LLampRound$Lamps;" ∈ wAll := inr_5 (List.mem_of_getElem? (i := 17) rfl)
theorem wm_22_12 : Cond.methodLink RX5 46 yX2_survey ∈ wAll := inr_22 (List.mem_of_getElem? (i := 12) rfl)
theorem wm_5_7 : Cond.fieldLink RX5 9 "LampRound$Search" "musts" "[I" ∈ wAll := inr_5 (List.mem_of_getElem? (i := 7) rfl)
theorem wm_22_8 : Cond.methodLink RX5 54 arraycopyName ∈ wAll := inr_22 (List.mem_of_getElem? (i := 8) rfl)
theorem wm_22_9 : Cond.native arraycopyName ∈ wAll := inr_22 (List.mem_of_getElem? (i := 9) rfl)
theorem wm_22_10 : Cond.static arraycopyName ∈ wAll := inr_22 (List.mem_of_getElem? (i := 10) rfl)
theorem wm_22_11 : Cond.initialized "java/lang/System" ∈ wAll := inr_22 (List.mem_of_getElem? (i := 11) rfl)
theorem wm_5_8 : Cond.fieldLink RX5 15 "LampRound$Search" "bans" "[I" ∈ wAll := inr_5 (List.mem_of_getElem? (i := 8) rfl)
theorem wm_22_13 : Cond.methodLink RX5 60 yJ7_fill_53178 ∈ wAll := inr_22 (List.mem_of_getElem? (i := 13) rfl)
theorem wm_5_13 : Cond.fieldLink RX5 30 "LampRound$Search" "shuns" "Z" ∈ wAll := inr_5 (List.mem_of_getElem? (i := 13) rfl)
theorem wm_5_15 : Cond.constant RX5 38 (2147483647) ∈ wAll := inr_5 (List.mem_of_getElem? (i := 15) rfl)
theorem wm_5_16 : Cond.fieldLink RX5 39 "LampRound$Search" "bestLength" "I" ∈ wAll := inr_5 (List.mem_of_getElem? (i := 16) rfl)
theorem wm_5_14 : Cond.fieldLink RX5 34 "LampRound$Search" "size" "I" ∈ wAll := inr_5 (List.mem_of_getElem? (i := 14) rfl)
theorem wm_22_14 : Cond.methodLink RX5 69 yX2_isLive ∈ wAll := inr_22 (List.mem_of_getElem? (i := 14) rfl)
theorem wm_5_9 : Cond.fieldLink RX5 18 "LampRound$Search" "live" "[I" ∈ wAll := inr_5 (List.mem_of_getElem? (i := 9) rfl)
abbrev rm_Search_begin : Room := { frames := 4, cells := 0, slots := 0, locals := 93 }
def wp_Search_begin_51_s (K108 : ST → Prop) (post : ST → Prop) (rec : ST → Int32 → Prop) (X : ST) (l1 : Int32) : Prop :=
  ((x_Lamps_count X) ≤ l1 → (K108 X)) ∧ (¬ (x_Lamps_count X) ≤ l1 → ((8 ≤ (x_Search_size X) → (K108 X)) ∧ (¬ 8 ≤ (x_Search_size X) → (wp_Lamps_isLive X l1 (fun r10 X9 => (r10 = 0 → (rec X9 (l1 + 1))) ∧ (¬ r10 = 0 → (vp_in (x_Search_size X9) 8 ∧ (∀ X11 : ST, X11 = xs_Search_live X9 (upd (x_Search_live X9) (x_Search_size X9).toNatClampNeg l1) → ∀ X12 : ST, X12 = xs_Search_size X11 ((x_Search_size X11) + 1) → rec X12 (l1 + 1)))))))))
def wp_Search_begin_51 (K108 : ST → Prop) (post : ST → Prop) : Nat → ST → Int32 → Prop
  | 0 => fun _ _ => False
  | n + 1 => wp_Search_begin_51_s K108 post (wp_Search_begin_51 K108 post n)
set_option maxHeartbeats 4000000 in
set_option maxRecDepth 100000 in
theorem lb_Search_begin_51 {κ : Cx} {g : Gx} {M : ST} (hκ : CF κ g RX5 cX5_begin wq_X5_begin 2 rm_Search_begin) {post : ST → Prop} (hR : RtxV κ g 2 cX5_begin M post) {K108 : ST → Prop} (hK108 : ∀ (X : ST), K108 X → Jw κ g 2 X M [] 108 []) : ∀ (n : Nat) (X : ST) (l1 : Int32), wp_Search_begin_51 K108 post n X l1 → Jw κ g 2 X M [(0, .ref (g.2.1 5)), (1, .int l1)] 51 [] := by
  intro n
  induction n with
  | zero =>
    intro X l1  h
    exact h.elim
  | succ n ih =>
    intro X l1  h
    have h : wp_Search_begin_51_s K108 post (wp_Search_begin_51 K108 post n) X l1 := h
    unfold wp_Search_begin_51_s at h
    refine j_iload_n (pc' := 52) hκ 1 rfl rfl dX5_begin_51 rfl ?_
    refine j_aload_n (pc' := 53) hκ 0 rfl rfl dX5_begin_52 rfl ?_
    refine jg_5_0 (pc' := 56) hκ (mi inlX5) (fl_in hκ (mc wm_5_17)) dX5_begin_53 rfl ?_
    refine jg_3_9 (pc' := 59) hκ (mi inlX2) (fl_ne hκ 40 rfl) dX5_begin_56 rfl ?_
    refine j_icmp_ge (tgt := 108) (pc' := 62) hκ dX5_begin_59 (by decide) rfl (fun c => ?_) (fun c => ?_)
    · replace h := h.1 c
      refine j_sub [] rfl ?_
      exact hK108 _  h
    · replace h := h.2 c
      refine j_aload_n (pc' := 63) hκ 0 rfl rfl dX5_begin_62 rfl ?_
      refine jg_5_8 (pc' := 66) hκ (mi inlX5) (fl_in hκ (mc wm_5_14)) dX5_begin_63 rfl ?_
      refine j_bipush (pc' := 68) (v := 8) hκ (by decide) dX5_begin_66 rfl ?_
      refine j_icmp_ge (tgt := 108) (pc' := 71) hκ dX5_begin_68 (by decide) rfl (fun c => ?_) (fun c => ?_)
      · replace h := h.1 c
        refine j_sub [] rfl ?_
        exact hK108 _  h
      · replace h := h.2 c
        refine j_aload_n (pc' := 72) hκ 0 rfl rfl dX5_begin_71 rfl ?_
        refine jg_5_0 (pc' := 75) hκ (mi inlX5) (fl_in hκ (mc wm_5_17)) dX5_begin_72 rfl ?_
        refine j_iload_n (pc' := 76) hκ 1 rfl rfl dX5_begin_75 rfl ?_
        refine jx_callVi (pc' := 79) hκ (c_Lamps_isLive (dg hκ) h) rfl rfl rfl (gV wm_22_14 wm_17_23 wm_18_0 wm_1_23 wm_18_1) hqV_X2_isLive ⟨Nat.le_of_ble_eq_true rfl, Nat.le_of_ble_eq_true rfl⟩ (wg_3 g _ _) rfl rfl rfl (Nat.le_of_ble_eq_true rfl) dX5_begin_76 rfl (fun r10 X9 h => ?_)
        refine j_if_eq (tgt := 102) (pc' := 82) hκ dX5_begin_79 (by decide) rfl (fun c => ?_) (fun c => ?_)
        · replace h := h.1 c
          refine j_iinc (pc' := 105) (v := l1 + 1) (lv' := [(1, .int (l1 + 1)), (0, .ref (g.2.1 5))]) hκ 1 rfl rfl (Nat.le_of_ble_eq_true rfl) rfl dX5_begin_102 rfl ?_
          refine j_goto (pc' := 51) hκ (by decide) dX5_begin_105 ?_
          refine j_sub [1, 0] rfl ?_
          exact ih _ _  h
        · replace h := h.2 c
          refine j_aload_n (pc' := 83) hκ 0 rfl rfl dX5_begin_82 rfl ?_
          refine jg_5_3 (pc' := 86) hκ (mi inlX5) (fl_in hκ (mc wm_5_9)) dX5_begin_83 rfl ?_
          refine j_aload_n (pc' := 87) hκ 0 rfl rfl dX5_begin_86 rfl ?_
          refine jg_5_8 (pc' := 90) hκ (mi inlX5) (fl_in hκ (mc wm_5_14)) dX5_begin_87 rfl ?_
          refine j_iload_n (pc' := 91) hκ 1 rfl rfl dX5_begin_90 rfl ?_
          refine jx_iast (pc' := 92) hκ (ah_30 g) h.1 dX5_begin_91 rfl ?_
          replace h := h.2
          refine j_nmX (fun X11 eX11 => ?_)
          replace h := h X11 eX11
          refine j_aload_n (pc' := 93) hκ 0 rfl rfl dX5_begin_92 rfl ?_
          refine j_dup (pc' := 94) hκ rfl dX5_begin_93 rfl ?_
          refine jg_5_8 (pc' := 97) hκ (mi inlX5) (fl_in hκ (mc wm_5_14)) dX5_begin_94 rfl ?_
          refine j_iconst (pc' := 98) (v := 1) hκ (by decide) dX5_begin_97 rfl ?_
          refine j_iadd (pc' := 99) hκ dX5_begin_98 rfl ?_
          refine jp_5_8 (pc' := 102) hκ (mi inlX5) (fl_in hκ (mc wm_5_14)) dX5_begin_99 rfl ?_
          refine j_nmX (fun X12 eX12 => ?_)
          replace h := h X12 eX12
          refine j_iinc (pc' := 105) (v := l1 + 1) (lv' := [(1, .int (l1 + 1)), (0, .ref (g.2.1 5))]) hκ 1 rfl rfl (Nat.le_of_ble_eq_true rfl) rfl dX5_begin_102 rfl ?_
          refine j_goto (pc' := 51) hκ (by decide) dX5_begin_105 ?_
          refine j_sub [1, 0] rfl ?_
          exact ih _ _  h
def wp_Search_begin (X : ST) (post : ST → Prop) : Prop :=
  wp_Lamps_survey X (fun X1 => ¬ (0 : Int32) < 0 ∧ ¬ (0 : Int32) < 0 ∧ ¬ (12 : Int32) < 0 ∧ (0 : Int32).toNatClampNeg + (12 : Int32).toNatClampNeg ≤ 12 ∧ (0 : Int32).toNatClampNeg + (12 : Int32).toNatClampNeg ≤ 12 ∧ (∀ X3 : ST, X3 = xs_Search_musts X1 (va_cpy (x_Lamps_needs X1) (x_Search_musts X1) (0 : Int32).toNatClampNeg (0 : Int32).toNatClampNeg (12 : Int32).toNatClampNeg) → wp_arr_fillI X3 29 12 0 (fun X4 => ∀ X6 : ST, X6 = xs_Search_shuns X4 0 → ∀ X7 : ST, X7 = xs_Search_bestLength X6 2147483647 → ∀ X8 : ST, X8 = xs_Search_size X7 0 → ∃ n, wp_Search_begin_51 (fun X13 => post X13) post n X8 0)))
set_option maxHeartbeats 4000000 in
set_option maxRecDepth 100000 in
theorem lb_Search_begin {κ : Cx} {g : Gx} {M : ST} (hκ : CF κ g RX5 cX5_begin wq_X5_begin 2 rm_Search_begin) {post : ST → Prop} (hR : RtxV κ g 2 cX5_begin M post) {X : ST} (h : wp_Search_begin X post) : Jw κ g 2 X M [(0, .ref (g.2.1 5))] 0 [] := by
  unfold wp_Search_begin at h
  refine j_aload_n (pc' := 1) hκ 0 rfl rfl dX5_begin_0 rfl ?_
  refine jg_5_0 (pc' := 4) hκ (mi inlX5) (fl_in hκ (mc wm_5_17)) dX5_begin_1 rfl ?_
  refine jx_callVv (pc' := 7) hκ (c_Lamps_survey (dg hκ) h) rfl rfl rfl (gV wm_22_12 wm_18_18 wm_18_19 wm_1_23 wm_18_20) hqV_X2_survey ⟨Nat.le_of_ble_eq_true rfl, Nat.le_of_ble_eq_true rfl⟩ (wg_3 g _ _) rfl rfl rfl (Nat.le_of_ble_eq_true rfl) dX5_begin_4 rfl (fun X1 h => ?_)
  refine j_aload_n (pc' := 8) hκ 0 rfl rfl dX5_begin_7 rfl ?_
  refine jg_5_0 (pc' := 11) hκ (mi inlX5) (fl_in hκ (mc wm_5_17)) dX5_begin_8 rfl ?_
  refine jg_3_6 (pc' := 14) hκ (mi inlX2) (fl_ne hκ 39 rfl) dX5_begin_11 rfl ?_
  refine j_iconst (pc' := 15) (v := 0) hκ (by decide) dX5_begin_14 rfl ?_
  refine j_aload_n (pc' := 16) hκ 0 rfl rfl dX5_begin_15 rfl ?_
  refine jg_5_1 (pc' := 19) hκ (mi inlX5) (fl_in hκ (mc wm_5_7)) dX5_begin_16 rfl ?_
  refine j_iconst (pc' := 20) (v := 0) hκ (by decide) dX5_begin_19 rfl ?_
  refine j_bipush (pc' := 22) (v := 12) hκ (by decide) dX5_begin_20 rfl ?_
  refine jx_copyi (pc' := 25) hκ (ah_25 g) (ah_28 g) h.1 h.2.1 h.2.2.1 h.2.2.2.1 h.2.2.2.2.1 (mc wm_22_8) (mc wm_22_9) (mc wm_22_10) (mc wm_22_11) (Nat.le_of_ble_eq_true rfl) (Nat.le_of_ble_eq_true rfl) dX5_begin_22 rfl ?_
  replace h := h.2.2.2.2.2
  refine j_nmX (fun X3 eX3 => ?_)
  replace h := h X3 eX3
  refine j_aload_n (pc' := 26) hκ 0 rfl rfl dX5_begin_25 rfl ?_
  refine jg_5_2 (pc' := 29) hκ (mi inlX5) (fl_in hκ (mc wm_5_8)) dX5_begin_26 rfl ?_
  refine j_iconst (pc' := 30) (v := 0) hκ (by decide) dX5_begin_29 rfl ?_
  refine jx_callSv (pc' := 33) hκ (c_arr_fillI (dg hκ) (ah_29 g) h) rfl rfl rfl (gS wm_22_13 wm_3_13 wm_3_14 wm_3_15) hqS_J7_fill_53178 ⟨Nat.le_of_ble_eq_true rfl, Nat.le_of_ble_eq_true rfl⟩ rfl rfl (Nat.le_of_ble_eq_true rfl) dX5_begin_30 rfl (fun X4 h => ?_)
  refine j_aload_n (pc' := 34) hκ 0 rfl rfl dX5_begin_33 rfl ?_
  refine j_iconst (pc' := 35) (v := 0) hκ (by decide) dX5_begin_34 rfl ?_
  refine jp_5_7 (pc' := 38) hκ (mi inlX5) (fl_in hκ (mc wm_5_13)) (Or.inl rfl) dX5_begin_35 rfl ?_
  refine j_nmX (fun X6 eX6 => ?_)
  replace h := h X6 eX6
  refine j_aload_n (pc' := 39) hκ 0 rfl rfl dX5_begin_38 rfl ?_
  refine j_ldc (pc' := 41) hκ (mc wm_5_15) dX5_begin_39 rfl ?_
  refine jp_5_9 (pc' := 44) hκ (mi inlX5) (fl_in hκ (mc wm_5_16)) dX5_begin_41 rfl ?_
  refine j_nmX (fun X7 eX7 => ?_)
  replace h := h X7 eX7
  refine j_aload_n (pc' := 45) hκ 0 rfl rfl dX5_begin_44 rfl ?_
  refine j_iconst (pc' := 46) (v := 0) hκ (by decide) dX5_begin_45 rfl ?_
  refine jp_5_8 (pc' := 49) hκ (mi inlX5) (fl_in hκ (mc wm_5_14)) dX5_begin_46 rfl ?_
  refine j_nmX (fun X8 eX8 => ?_)
  replace h := h X8 eX8
  refine j_iconst (pc' := 50) (v := 0) hκ (by decide) dX5_begin_49 rfl ?_
  refine j_istore_n (pc' := 51) (lv' := [(1, .int 0), (0, .ref (g.2.1 5))]) hκ (Nat.le_of_ble_eq_true rfl) rfl rfl dX5_begin_50 rfl ?_
  obtain ⟨n, h⟩ := h
  refine j_sub [1, 0] rfl ?_
  refine lb_Search_begin_51 hκ hR ?_ n _ _  h
  intro X13  h
  exact hR _ _ _ dX5_begin_108 h
theorem c_Search_begin {g : Gx} (hg : Dg g) {X M : ST} {post : ST → Prop} (h : wp_Search_begin X post) (l : Launch) : Met l yX5_begin wq_X5_begin rm_Search_begin (va_Pc [.ref (g.2.1 5)] (PU g X M)) (va_Qv post (fun Y t => va_P g.1 vwCl (ww g Y M) t.heap) (wA g)) 0 0 (wA g) :=
  met_xv hg (by decide) rfl [.ref (g.2.1 5)] rfl (Nat.le_of_ble_eq_true rfl) (fun κ hκ hR => lb_Search_begin hκ hR h) l
theorem wm_22_4 : Cond.methodLink RX9 215 yX5_begin ∈ wAll := inr_22 (List.mem_of_getElem? (i := 4) rfl)
theorem wm_22_5 : Cond.instanceMethod yX5_begin ∈ wAll := inr_22 (List.mem_of_getElem? (i := 5) rfl)
theorem wm_22_6 : Cond.selects RX5 yX5_begin yX5_begin ∈ wAll := inr_22 (List.mem_of_getElem? (i := 6) rfl)
theorem wm_2_7 : Cond.initialized RX5 ∈ wAll := inr_2 (List.mem_of_getElem? (i := 7) rfl)
theorem wm_22_7 : Cond.code yX5_begin cX5_begin 2 none ∈ wAll := inr_22 (List.mem_of_getElem? (i := 7) rfl)
theorem hqV_X5_begin : yX5_begin.cls = RX5 ∧ yX5_begin.cls ≠ "java/lang/invoke/MethodHandle" ∧ yX5_begin.cls ≠ "java/lang/invoke/VarHandle" ∧ (parseMethodDescriptor yX5_begin.desc).map (fun d => d.parameters.length) = some 0 := by decide +kernel
theorem wm_22_23 : Cond.constant RX5 85 (1000000) ∈ wAll := inr_22 (List.mem_of_getElem? (i := 23) rfl)
abbrev rm_Search_isHungTogether : Room := { frames := 0, cells := 0, slots := 0, locals := 0 }
def wp_Search_isHungTogether_2_s (K36 : ST → Prop) (K44 : ST → Prop) (post : Int32 → ST → Prop) (rec : ST → Int32 → Prop) (X : ST) (l1 : Int32) : Prop :=
  ((x_Search_size X) ≤ l1 → (K44 X)) ∧ (¬ (x_Search_size X) ≤ l1 → (vp_in 0 8 ∧ (vp_in (x_Search_live X (0 : Int32).toNatClampNeg) 12 ∧ (vp_in l1 8 ∧ (vp_in (x_Search_live X l1.toNatClampNeg) 12 ∧ ((¬ (x_gaps X ((x_Search_live X (0 : Int32).toNatClampNeg).toNatClampNeg) (x_Search_live X l1.toNatClampNeg).toNatClampNeg) = 1000000 → (rec X (l1 + 1))) ∧ ((x_gaps X ((x_Search_live X (0 : Int32).toNatClampNeg).toNatClampNeg) (x_Search_live X l1.toNatClampNeg).toNatClampNeg) = 1000000 → (K36 X))))))))
def wp_Search_isHungTogether_2 (K36 : ST → Prop) (K44 : ST → Prop) (post : Int32 → ST → Prop) : Nat → ST → Int32 → Prop
  | 0 => fun _ _ => False
  | n + 1 => wp_Search_isHungTogether_2_s K36 K44 post (wp_Search_isHungTogether_2 K36 K44 post n)
set_option maxHeartbeats 4000000 in
set_option maxRecDepth 100000 in
theorem lb_Search_isHungTogether_2 {κ : Cx} {g : Gx} {M : ST} (hκ : CF κ g RX5 cX5_isHungTogether wq_X5_isHungTogether 2 rm_Search_isHungTogether) {post : Int32 → ST → Prop} (hR : RtxZ κ g 2 cX5_isHungTogether M post) {K36 : ST → Prop} {K44 : ST → Prop} (hK36 : ∀ (X : ST), K36 X → Jw κ g 2 X M [] 36 []) (hK44 : ∀ (X : ST), K44 X → Jw κ g 2 X M [] 44 []) : ∀ (n : Nat) (X : ST) (l1 : Int32), wp_Search_isHungTogether_2 K36 K44 post n X l1 → Jw κ g 2 X M [(0, .ref (g.2.1 5)), (1, .int l1)] 2 [] := by
  intro n
  induction n with
  | zero =>
    intro X l1  h
    exact h.elim
  | succ n ih =>
    intro X l1  h
    have h : wp_Search_isHungTogether_2_s K36 K44 post (wp_Search_isHungTogether_2 K36 K44 post n) X l1 := h
    unfold wp_Search_isHungTogether_2_s at h
    refine j_iload_n (pc' := 3) hκ 1 rfl rfl dX5_isHungTogether_2 rfl ?_
    refine j_aload_n (pc' := 4) hκ 0 rfl rfl dX5_isHungTogether_3 rfl ?_
    refine jg_5_8 (pc' := 7) hκ (mi inlX5) (fl_in hκ (mc wm_5_14)) dX5_isHungTogether_4 rfl ?_
    refine j_icmp_ge (tgt := 44) (pc' := 10) hκ dX5_isHungTogether_7 (by decide) rfl (fun c => ?_) (fun c => ?_)
    · replace h := h.1 c
      refine j_sub [] rfl ?_
      exact hK44 _  h
    · replace h := h.2 c
      refine j_aload_n (pc' := 11) hκ 0 rfl rfl dX5_isHungTogether_10 rfl ?_
      refine jg_5_0 (pc' := 14) hκ (mi inlX5) (fl_in hκ (mc wm_5_17)) dX5_isHungTogether_11 rfl ?_
      refine jg_3_7 (pc' := 17) hκ (mi inlX2) (fl_ne hκ 41 rfl) dX5_isHungTogether_14 rfl ?_
      refine j_aload_n (pc' := 18) hκ 0 rfl rfl dX5_isHungTogether_17 rfl ?_
      refine jg_5_3 (pc' := 21) hκ (mi inlX5) (fl_in hκ (mc wm_5_9)) dX5_isHungTogether_18 rfl ?_
      refine j_iconst (pc' := 22) (v := 0) hκ (by decide) dX5_isHungTogether_21 rfl ?_
      refine jx_iald (pc' := 23) hκ (ah_30 g) h.1 dX5_isHungTogether_22 rfl ?_
      replace h := h.2
      refine j_aald (pc' := 24) (q := 26) (t := 3) hκ (wg_26 g _ _) rfl h.1 dX5_isHungTogether_23 rfl ?_
      have hr1 : (x_Search_live X (0 : Int32).toNatClampNeg).toNatClampNeg < 12 := Nat.not_le.mp fun q => h.1 (Or.inr q)
      replace h := h.2
      refine j_aload_n (pc' := 25) hκ 0 rfl rfl dX5_isHungTogether_24 rfl ?_
      refine jg_5_3 (pc' := 28) hκ (mi inlX5) (fl_in hκ (mc wm_5_9)) dX5_isHungTogether_25 rfl ?_
      refine j_iload_n (pc' := 29) hκ 1 rfl rfl dX5_isHungTogether_28 rfl ?_
      refine jx_iald (pc' := 30) hκ (ah_30 g) h.1 dX5_isHungTogether_29 rfl ?_
      replace h := h.2
      refine jx_iald (pc' := 31) hκ (ah_gaps g hr1) h.1 dX5_isHungTogether_30 rfl ?_
      replace h := h.2
      refine j_ldc (pc' := 33) hκ (mc wm_22_23) dX5_isHungTogether_31 rfl ?_
      refine j_icmp_ne (tgt := 38) (pc' := 36) hκ dX5_isHungTogether_33 (by decide) rfl (fun c => ?_) (fun c => ?_)
      · replace h := h.1 c
        refine j_iinc (pc' := 41) (v := l1 + 1) (lv' := [(1, .int (l1 + 1)), (0, .ref (g.2.1 5))]) hκ 1 rfl rfl (Nat.le_of_ble_eq_true rfl) rfl dX5_isHungTogether_38 rfl ?_
        refine j_goto (pc' := 2) hκ (by decide) dX5_isHungTogether_41 ?_
        refine j_sub [1, 0] rfl ?_
        exact ih _ _  h
      · replace h := h.2 c
        refine j_sub [] rfl ?_
        exact hK36 _  h
def wp_Search_isHungTogether (X : ST) (post : Int32 → ST → Prop) : Prop :=
  ∃ n, wp_Search_isHungTogether_2 (fun X2 => post 0 X2) (fun X3 => post 1 X3) post n X 1
set_option maxHeartbeats 4000000 in
set_option maxRecDepth 100000 in
theorem lb_Search_isHungTogether {κ : Cx} {g : Gx} {M : ST} (hκ : CF κ g RX5 cX5_isHungTogether wq_X5_isHungTogether 2 rm_Search_isHungTogether) {post : Int32 → ST → Prop} (hR : RtxZ κ g 2 cX5_isHungTogether M post) {X : ST} (h : wp_Search_isHungTogether X post) : Jw κ g 2 X M [(0, .ref (g.2.1 5))] 0 [] := by
  unfold wp_Search_isHungTogether at h
  refine j_iconst (pc' := 1) (v := 1) hκ (by decide) dX5_isHungTogether_0 rfl ?_
  refine j_istore_n (pc' := 2) (lv' := [(1, .int 1), (0, .ref (g.2.1 5))]) hκ (Nat.le_of_ble_eq_true rfl) rfl rfl dX5_isHungTogether_1 rfl ?_
  obtain ⟨n, h⟩ := h
  refine j_sub [1, 0] rfl ?_
  refine lb_Search_isHungTogether_2 hκ hR ?_ ?_ n _ _  h
  · intro X2  h
    refine j_iconst (pc' := 37) (v := 0) hκ (by decide) dX5_isHungTogether_36 rfl ?_
    exact hR _ _ _ _ dX5_isHungTogether_37 (Or.inl rfl) h
  · intro X3  h
    refine j_iconst (pc' := 45) (v := 1) hκ (by decide) dX5_isHungTogether_44 rfl ?_
    exact hR _ _ _ _ dX5_isHungTogether_45 (Or.inr rfl) h
theorem c_Search_isHungTogether {g : Gx} (hg : Dg g) {X M : ST} {post : Int32 → ST → Prop} (h : wp_Search_isHungTogether X post) (l : Launch) : Met l yX5_isHungTogether wq_X5_isHungTogether rm_Search_isHungTogether (va_Pc [.ref (g.2.1 5)] (PU g X M)) (va_Qi post (fun Y t => va_P g.1 vwCl (ww g Y M) t.heap) (wA g)) 0 0 (wA g) :=
  met_xz hg (by decide) rfl [.ref (g.2.1 5)] rfl (Nat.le_of_ble_eq_true rfl) (fun κ hκ hR => lb_Search_isHungTogether hκ hR h) l
theorem wm_22_19 : Cond.methodLink RX5 73 yX5_isHungTogether ∈ wAll := inr_22 (List.mem_of_getElem? (i := 19) rfl)
theorem wm_22_20 : Cond.instanceMethod yX5_isHungTogether ∈ wAll := inr_22 (List.mem_of_getElem? (i := 20) rfl)
theorem wm_22_21 : Cond.selects RX5 yX5_isHungTogether yX5_isHungTogether ∈ wAll := inr_22 (List.mem_of_getElem? (i := 21) rfl)
theorem wm_22_22 : Cond.code yX5_isHungTogether cX5_isHungTogether 2 (some .boolean) ∈ wAll := inr_22 (List.mem_of_getElem? (i := 22) rfl)
theorem hqV_X5_isHungTogether : yX5_isHungTogether.cls = RX5 ∧ yX5_isHungTogether.cls ≠ "java/lang/invoke/MethodHandle" ∧ yX5_isHungTogether.cls ≠ "java/lang/invoke/VarHandle" ∧ (parseMethodDescriptor yX5_isHungTogether.desc).map (fun d => d.parameters.length) = some 0 := by decide +kernel
theorem wm_5_10 : Cond.fieldLink RX5 21 "LampRound$Search" "order" "[I" ∈ wAll := inr_5 (List.mem_of_getElem? (i := 10) rfl)
abbrev rm_Search_isContent : Room := { frames := 0, cells := 0, slots := 0, locals := 0 }
def wp_Search_isContent (X : ST) (p1 : Int32) (p2 : Int32) (p3 : Int32) (post : Int32 → ST → Prop) : Prop :=
  vp_in p1 12 ∧ ((¬ ((x_Search_musts X p1.toNatClampNeg) &&& ((((1 : Int32) <<< (p2 &&& 31)) ||| ((1 : Int32) <<< (p3 &&& 31))) ^^^ (-1))) = 0 → (post 0 X)) ∧ (((x_Search_musts X p1.toNatClampNeg) &&& ((((1 : Int32) <<< (p2 &&& 31)) ||| ((1 : Int32) <<< (p3 &&& 31))) ^^^ (-1))) = 0 → (post 1 X)))
set_option maxHeartbeats 4000000 in
set_option maxRecDepth 100000 in
theorem lb_Search_isContent {κ : Cx} {g : Gx} {M : ST} (hκ : CF κ g RX5 cX5_isContent wq_X5_isContent 4 rm_Search_isContent) {post : Int32 → ST → Prop} (hR : RtxZ κ g 4 cX5_isContent M post) {X : ST} {p1 : Int32} {p2 : Int32} {p3 : Int32} (h : wp_Search_isContent X p1 p2 p3 post) : Jw κ g 4 X M [(0, .ref (g.2.1 5)), (1, .int p1), (2, .int p2), (3, .int p3)] 0 [] := by
  unfold wp_Search_isContent at h
  refine j_aload_n (pc' := 1) hκ 0 rfl rfl dX5_isContent_0 rfl ?_
  refine jg_5_1 (pc' := 4) hκ (mi inlX5) (fl_in hκ (mc wm_5_7)) dX5_isContent_1 rfl ?_
  refine j_iload_n (pc' := 5) hκ 1 rfl rfl dX5_isContent_4 rfl ?_
  refine jx_iald (pc' := 6) hκ (ah_28 g) h.1 dX5_isContent_5 rfl ?_
  replace h := h.2
  refine j_iconst (pc' := 7) (v := 1) hκ (by decide) dX5_isContent_6 rfl ?_
  refine j_iload_n (pc' := 8) hκ 2 rfl rfl dX5_isContent_7 rfl ?_
  refine j_ishl (pc' := 9) hκ dX5_isContent_8 rfl ?_
  refine j_iconst (pc' := 10) (v := 1) hκ (by decide) dX5_isContent_9 rfl ?_
  refine j_iload_n (pc' := 11) hκ 3 rfl rfl dX5_isContent_10 rfl ?_
  refine j_ishl (pc' := 12) hκ dX5_isContent_11 rfl ?_
  refine j_ior (pc' := 13) hκ dX5_isContent_12 rfl ?_
  refine j_iconst (pc' := 14) (v := (-1)) hκ (by decide) dX5_isContent_13 rfl ?_
  refine j_ixor (pc' := 15) hκ dX5_isContent_14 rfl ?_
  refine j_iand (pc' := 16) hκ dX5_isContent_15 rfl ?_
  refine j_if_ne (tgt := 23) (pc' := 19) hκ dX5_isContent_16 (by decide) rfl (fun c => ?_) (fun c => ?_)
  · replace h := h.1 c
    refine j_iconst (pc' := 24) (v := 0) hκ (by decide) dX5_isContent_23 rfl ?_
    exact hR _ _ _ _ dX5_isContent_24 (Or.inl rfl) h
  · replace h := h.2 c
    refine j_iconst (pc' := 20) (v := 1) hκ (by decide) dX5_isContent_19 rfl ?_
    refine j_goto (pc' := 24) hκ (by decide) dX5_isContent_20 ?_
    exact hR _ _ _ _ dX5_isContent_24 (Or.inr rfl) h
theorem c_Search_isContent {g : Gx} (hg : Dg g) {X M : ST} {p1 : Int32} {p2 : Int32} {p3 : Int32} {post : Int32 → ST → Prop} (h : wp_Search_isContent X p1 p2 p3 post) (l : Launch) : Met l yX5_isContent wq_X5_isContent rm_Search_isContent (va_Pc [.ref (g.2.1 5), .int p1, .int p2, .int p3] (PU g X M)) (va_Qi post (fun Y t => va_P g.1 vwCl (ww g Y M) t.heap) (wA g)) 0 0 (wA g) :=
  met_xz hg (by decide) rfl [.ref (g.2.1 5), .int p1, .int p2, .int p3] rfl (Nat.le_of_ble_eq_true rfl) (fun κ hκ hR => lb_Search_isContent hκ hR h) l
theorem wm_23_8 : Cond.methodLink RX5 98 yX5_isContent ∈ wAll := inr_23 (List.mem_of_getElem? (i := 8) rfl)
theorem wm_23_9 : Cond.instanceMethod yX5_isContent ∈ wAll := inr_23 (List.mem_of_getElem? (i := 9) rfl)
theorem wm_23_10 : Cond.selects RX5 yX5_isContent yX5_isContent ∈ wAll := inr_23 (List.mem_of_getElem? (i := 10) rfl)
theorem wm_23_11 : Cond.code yX5_isContent cX5_isContent 4 (some .boolean) ∈ wAll := inr_23 (List.mem_of_getElem? (i := 11) rfl)
theorem hqV_X5_isContent : yX5_isContent.cls = RX5 ∧ yX5_isContent.cls ≠ "java/lang/invoke/MethodHandle" ∧ yX5_isContent.cls ≠ "java/lang/invoke/VarHandle" ∧ (parseMethodDescriptor yX5_isContent.desc).map (fun d => d.parameters.length) = some 3 := by decide +kernel
abbrev rm_Search_mayFollow : Room := { frames := 1, cells := 0, slots := 0, locals := 23 }
def wp_Search_mayFollow (X : ST) (p1 : Int32) (p2 : Int32) (p3 : Int32) (post : Int32 → ST → Prop) : Prop :=
  vp_in p2 12 ∧ (wp_LR_isIn X (x_Search_bans X p2.toNatClampNeg) p3 (fun r2 X1 => (r2 = 0 → ((p1 < 2 → (post 1 X1)) ∧ (¬ p1 < 2 → (vp_in (p1 - 2) 8 ∧ (wp_Search_isContent X1 p2 (x_Search_order X1 (p1 - 2).toNatClampNeg) p3 (fun r4 X3 => (r4 = 0 → (post 0 X3)) ∧ (¬ r4 = 0 → (post 1 X3)))))))) ∧ (¬ r2 = 0 → (post 0 X1))))
set_option maxHeartbeats 4000000 in
set_option maxRecDepth 100000 in
theorem lb_Search_mayFollow {κ : Cx} {g : Gx} {M : ST} (hκ : CF κ g RX5 cX5_mayFollow wq_X5_mayFollow 4 rm_Search_mayFollow) {post : Int32 → ST → Prop} (hR : RtxZ κ g 4 cX5_mayFollow M post) {X : ST} {p1 : Int32} {p2 : Int32} {p3 : Int32} (h : wp_Search_mayFollow X p1 p2 p3 post) : Jw κ g 4 X M [(0, .ref (g.2.1 5)), (1, .int p1), (2, .int p2), (3, .int p3)] 0 [] := by
  unfold wp_Search_mayFollow at h
  refine j_aload_n (pc' := 1) hκ 0 rfl rfl dX5_mayFollow_0 rfl ?_
  refine jg_5_2 (pc' := 4) hκ (mi inlX5) (fl_in hκ (mc wm_5_8)) dX5_mayFollow_1 rfl ?_
  refine j_iload_n (pc' := 5) hκ 2 rfl rfl dX5_mayFollow_4 rfl ?_
  refine jx_iald (pc' := 6) hκ (ah_29 g) h.1 dX5_mayFollow_5 rfl ?_
  replace h := h.2
  refine j_iload_n (pc' := 7) hκ 3 rfl rfl dX5_mayFollow_6 rfl ?_
  refine jx_callNi (pc' := 10) hκ (c_LR_isIn (dg hκ) h) rfl rfl rfl (gN wm_18_4) 11 rfl (mc wm_1_2) (mc wm_18_3) hqS_X9_isIn ⟨Nat.le_of_ble_eq_true rfl, Nat.le_of_ble_eq_true rfl⟩ rfl rfl (Nat.le_of_ble_eq_true rfl) dX5_mayFollow_7 rfl (fun r2 X1 h => ?_)
  refine j_if_eq (tgt := 15) (pc' := 13) hκ dX5_mayFollow_10 (by decide) rfl (fun c => ?_) (fun c => ?_)
  · replace h := h.1 c
    refine j_iload_n (pc' := 16) hκ 1 rfl rfl dX5_mayFollow_15 rfl ?_
    refine j_iconst (pc' := 17) (v := 2) hκ (by decide) dX5_mayFollow_16 rfl ?_
    refine j_icmp_lt (tgt := 37) (pc' := 20) hκ dX5_mayFollow_17 (by decide) rfl (fun c => ?_) (fun c => ?_)
    · replace h := h.1 c
      refine j_iconst (pc' := 38) (v := 1) hκ (by decide) dX5_mayFollow_37 rfl ?_
      refine j_goto (pc' := 42) hκ (by decide) dX5_mayFollow_38 ?_
      exact hR _ _ _ _ dX5_mayFollow_42 (Or.inr rfl) h
    · replace h := h.2 c
      refine j_aload_n (pc' := 21) hκ 0 rfl rfl dX5_mayFollow_20 rfl ?_
      refine j_iload_n (pc' := 22) hκ 2 rfl rfl dX5_mayFollow_21 rfl ?_
      refine j_aload_n (pc' := 23) hκ 0 rfl rfl dX5_mayFollow_22 rfl ?_
      refine jg_5_4 (pc' := 26) hκ (mi inlX5) (fl_in hκ (mc wm_5_10)) dX5_mayFollow_23 rfl ?_
      refine j_iload_n (pc' := 27) hκ 1 rfl rfl dX5_mayFollow_26 rfl ?_
      refine j_iconst (pc' := 28) (v := 2) hκ (by decide) dX5_mayFollow_27 rfl ?_
      refine j_isub (pc' := 29) hκ dX5_mayFollow_28 rfl ?_
      refine jx_iald (pc' := 30) hκ (ah_31 g) h.1 dX5_mayFollow_29 rfl ?_
      replace h := h.2
      refine j_iload_n (pc' := 31) hκ 3 rfl rfl dX5_mayFollow_30 rfl ?_
      refine jx_callVi (pc' := 34) hκ (c_Search_isContent (dg hκ) h) rfl rfl rfl (gV wm_23_8 wm_23_9 wm_23_10 wm_2_7 wm_23_11) hqV_X5_isContent ⟨Nat.le_of_ble_eq_true rfl, Nat.le_of_ble_eq_true rfl⟩ (wg_5 g _ _) rfl rfl rfl (Nat.le_of_ble_eq_true rfl) dX5_mayFollow_31 rfl (fun r4 X3 h => ?_)
      refine j_if_eq (tgt := 41) (pc' := 37) hκ dX5_mayFollow_34 (by decide) rfl (fun c => ?_) (fun c => ?_)
      · replace h := h.1 c
        refine j_iconst (pc' := 42) (v := 0) hκ (by decide) dX5_mayFollow_41 rfl ?_
        exact hR _ _ _ _ dX5_mayFollow_42 (Or.inl rfl) h
      · replace h := h.2 c
        refine j_iconst (pc' := 38) (v := 1) hκ (by decide) dX5_mayFollow_37 rfl ?_
        refine j_goto (pc' := 42) hκ (by decide) dX5_mayFollow_38 ?_
        exact hR _ _ _ _ dX5_mayFollow_42 (Or.inr rfl) h
  · replace h := h.2 c
    refine j_iconst (pc' := 14) (v := 0) hκ (by decide) dX5_mayFollow_13 rfl ?_
    exact hR _ _ _ _ dX5_mayFollow_14 (Or.inl rfl) h
theorem c_Search_mayFollow {g : Gx} (hg : Dg g) {X M : ST} {p1 : Int32} {p2 : Int32} {p3 : Int32} {post : Int32 → ST → Prop} (h : wp_Search_mayFollow X p1 p2 p3 post) (l : Launch) : Met l yX5_mayFollow wq_X5_mayFollow rm_Search_mayFollow (va_Pc [.ref (g.2.1 5), .int p1, .int p2, .int p3] (PU g X M)) (va_Qi post (fun Y t => va_P g.1 vwCl (ww g Y M) t.heap) (wA g)) 0 0 (wA g) :=
  met_xz hg (by decide) rfl [.ref (g.2.1 5), .int p1, .int p2, .int p3] rfl (Nat.le_of_ble_eq_true rfl) (fun κ hκ hR => lb_Search_mayFollow hκ hR h) l
theorem wm_23_16 : Cond.methodLink RX5 94 yX5_mayFollow ∈ wAll := inr_23 (List.mem_of_getElem? (i := 16) rfl)
theorem wm_23_17 : Cond.instanceMethod yX5_mayFollow ∈ wAll := inr_23 (List.mem_of_getElem? (i := 17) rfl)
theorem wm_23_18 : Cond.selects RX5 yX5_mayFollow yX5_mayFollow ∈ wAll := inr_23 (List.mem_of_getElem? (i := 18) rfl)
theorem wm_23_19 : Cond.code yX5_mayFollow cX5_mayFollow 4 (some .boolean) ∈ wAll := inr_23 (List.mem_of_getElem? (i := 19) rfl)
theorem hqV_X5_mayFollow : yX5_mayFollow.cls = RX5 ∧ yX5_mayFollow.cls ≠ "java/lang/invoke/MethodHandle" ∧ yX5_mayFollow.cls ≠ "java/lang/invoke/VarHandle" ∧ (parseMethodDescriptor yX5_mayFollow.desc).map (fun d => d.parameters.length) = some 3 := by decide +kernel
theorem wm_23_0 : Cond.methodLink RX5 77 yX5_extend ∈ wAll := inr_23 (List.mem_of_getElem? (i := 0) rfl)
theorem wm_23_1 : Cond.instanceMethod yX5_extend ∈ wAll := inr_23 (List.mem_of_getElem? (i := 1) rfl)
theorem wm_23_2 : Cond.selects RX5 yX5_extend yX5_extend ∈ wAll := inr_23 (List.mem_of_getElem? (i := 2) rfl)
theorem wm_23_3 : Cond.code yX5_extend cX5_extend 8 none ∈ wAll := inr_23 (List.mem_of_getElem? (i := 3) rfl)
theorem hqV_X5_extend : yX5_extend.cls = RX5 ∧ yX5_extend.cls ≠ "java/lang/invoke/MethodHandle" ∧ yX5_extend.cls ≠ "java/lang/invoke/VarHandle" ∧ (parseMethodDescriptor yX5_extend.desc).map (fun d => d.parameters.length) = some 3 := by decide +kernel
theorem wm_5_11 : Cond.fieldLink RX5 24 "LampRound$Search" "best" "[I" ∈ wAll := inr_5 (List.mem_of_getElem? (i := 11) rfl)
theorem wm_5_12 : Cond.fieldLink RX5 27 "LampRound$Search" "shunned" "[I" ∈ wAll := inr_5 (List.mem_of_getElem? (i := 12) rfl)
abbrev rm_Search_isShunned : Room := { frames := 0, cells := 0, slots := 0, locals := 0 }
def wp_Search_isShunned_2_s (K25 : ST → Prop) (K33 : ST → Prop) (post : Int32 → ST → Prop) (rec : ST → Int32 → Prop) (X : ST) (l1 : Int32) : Prop :=
  ((x_Search_size X) ≤ l1 → (K33 X)) ∧ (¬ (x_Search_size X) ≤ l1 → (vp_in l1 8 ∧ (vp_in l1 8 ∧ (((x_Search_order X l1.toNatClampNeg) = (x_Search_shunned X l1.toNatClampNeg) → (rec X (l1 + 1))) ∧ (¬ (x_Search_order X l1.toNatClampNeg) = (x_Search_shunned X l1.toNatClampNeg) → (K25 X))))))
def wp_Search_isShunned_2 (K25 : ST → Prop) (K33 : ST → Prop) (post : Int32 → ST → Prop) : Nat → ST → Int32 → Prop
  | 0 => fun _ _ => False
  | n + 1 => wp_Search_isShunned_2_s K25 K33 post (wp_Search_isShunned_2 K25 K33 post n)
set_option maxHeartbeats 4000000 in
set_option maxRecDepth 100000 in
theorem lb_Search_isShunned_2 {κ : Cx} {g : Gx} {M : ST} (hκ : CF κ g RX5 cX5_isShunned wq_X5_isShunned 2 rm_Search_isShunned) {post : Int32 → ST → Prop} (hR : RtxZ κ g 2 cX5_isShunned M post) {K25 : ST → Prop} {K33 : ST → Prop} (hK25 : ∀ (X : ST), K25 X → Jw κ g 2 X M [] 25 []) (hK33 : ∀ (X : ST), K33 X → Jw κ g 2 X M [] 33 []) : ∀ (n : Nat) (X : ST) (l1 : Int32), wp_Search_isShunned_2 K25 K33 post n X l1 → Jw κ g 2 X M [(0, .ref (g.2.1 5)), (1, .int l1)] 2 [] := by
  intro n
  induction n with
  | zero =>
    intro X l1  h
    exact h.elim
  | succ n ih =>
    intro X l1  h
    have h : wp_Search_isShunned_2_s K25 K33 post (wp_Search_isShunned_2 K25 K33 post n) X l1 := h
    unfold wp_Search_isShunned_2_s at h
    refine j_iload_n (pc' := 3) hκ 1 rfl rfl dX5_isShunned_2 rfl ?_
    refine j_aload_n (pc' := 4) hκ 0 rfl rfl dX5_isShunned_3 rfl ?_
    refine jg_5_8 (pc' := 7) hκ (mi inlX5) (fl_in hκ (mc wm_5_14)) dX5_isShunned_4 rfl ?_
    refine j_icmp_ge (tgt := 33) (pc' := 10) hκ dX5_isShunned_7 (by decide) rfl (fun c => ?_) (fun c => ?_)
    · replace h := h.1 c
      refine j_sub [] rfl ?_
      exact hK33 _  h
    · replace h := h.2 c
      refine j_aload_n (pc' := 11) hκ 0 rfl rfl dX5_isShunned_10 rfl ?_
      refine jg_5_4 (pc' := 14) hκ (mi inlX5) (fl_in hκ (mc wm_5_10)) dX5_isShunned_11 rfl ?_
      refine j_iload_n (pc' := 15) hκ 1 rfl rfl dX5_isShunned_14 rfl ?_
      refine jx_iald (pc' := 16) hκ (ah_31 g) h.1 dX5_isShunned_15 rfl ?_
      replace h := h.2
      refine j_aload_n (pc' := 17) hκ 0 rfl rfl dX5_isShunned_16 rfl ?_
      refine jg_5_6 (pc' := 20) hκ (mi inlX5) (fl_in hκ (mc wm_5_12)) dX5_isShunned_17 rfl ?_
      refine j_iload_n (pc' := 21) hκ 1 rfl rfl dX5_isShunned_20 rfl ?_
      refine jx_iald (pc' := 22) hκ (ah_33 g) h.1 dX5_isShunned_21 rfl ?_
      replace h := h.2
      refine j_icmp_eq (tgt := 27) (pc' := 25) hκ dX5_isShunned_22 (by decide) rfl (fun c => ?_) (fun c => ?_)
      · replace h := h.1 c
        refine j_iinc (pc' := 30) (v := l1 + 1) (lv' := [(1, .int (l1 + 1)), (0, .ref (g.2.1 5))]) hκ 1 rfl rfl (Nat.le_of_ble_eq_true rfl) rfl dX5_isShunned_27 rfl ?_
        refine j_goto (pc' := 2) hκ (by decide) dX5_isShunned_30 ?_
        refine j_sub [1, 0] rfl ?_
        exact ih _ _  h
      · replace h := h.2 c
        refine j_sub [] rfl ?_
        exact hK25 _  h
def wp_Search_isShunned (X : ST) (post : Int32 → ST → Prop) : Prop :=
  ∃ n, wp_Search_isShunned_2 (fun X1 => post 0 X1) (fun X2 => post 1 X2) post n X 0
set_option maxHeartbeats 4000000 in
set_option maxRecDepth 100000 in
theorem lb_Search_isShunned {κ : Cx} {g : Gx} {M : ST} (hκ : CF κ g RX5 cX5_isShunned wq_X5_isShunned 2 rm_Search_isShunned) {post : Int32 → ST → Prop} (hR : RtxZ κ g 2 cX5_isShunned M post) {X : ST} (h : wp_Search_isShunned X post) : Jw κ g 2 X M [(0, .ref (g.2.1 5))] 0 [] := by
  unfold wp_Search_isShunned at h
  refine j_iconst (pc' := 1) (v := 0) hκ (by decide) dX5_isShunned_0 rfl ?_
  refine j_istore_n (pc' := 2) (lv' := [(1, .int 0), (0, .ref (g.2.1 5))]) hκ (Nat.le_of_ble_eq_true rfl) rfl rfl dX5_isShunned_1 rfl ?_
  obtain ⟨n, h⟩ := h
  refine j_sub [1, 0] rfl ?_
  refine lb_Search_isShunned_2 hκ hR ?_ ?_ n _ _  h
  · intro X1  h
    refine j_iconst (pc' := 26) (v := 0) hκ (by decide) dX5_isShunned_25 rfl ?_
    exact hR _ _ _ _ dX5_isShunned_26 (Or.inl rfl) h
  · intro X2  h
    refine j_iconst (pc' := 34) (v := 1) hκ (by decide) dX5_isShunned_33 rfl ?_
    exact hR _ _ _ _ dX5_isShunned_34 (Or.inr rfl) h
theorem c_Search_isShunned {g : Gx} (hg : Dg g) {X M : ST} {post : Int32 → ST → Prop} (h : wp_Search_isShunned X post) (l : Launch) : Met l yX5_isShunned wq_X5_isShunned rm_Search_isShunned (va_Pc [.ref (g.2.1 5)] (PU g X M)) (va_Qi post (fun Y t => va_P g.1 vwCl (ww g Y M) t.heap) (wA g)) 0 0 (wA g) :=
  met_xz hg (by decide) rfl [.ref (g.2.1 5)] rfl (Nat.le_of_ble_eq_true rfl) (fun κ hκ hR => lb_Search_isShunned hκ hR h) l
theorem wm_23_12 : Cond.methodLink RX5 101 yX5_isShunned ∈ wAll := inr_23 (List.mem_of_getElem? (i := 12) rfl)
theorem wm_23_13 : Cond.instanceMethod yX5_isShunned ∈ wAll := inr_23 (List.mem_of_getElem? (i := 13) rfl)
theorem wm_23_14 : Cond.selects RX5 yX5_isShunned yX5_isShunned ∈ wAll := inr_23 (List.mem_of_getElem? (i := 14) rfl)
theorem wm_23_15 : Cond.code yX5_isShunned cX5_isShunned 2 (some .boolean) ∈ wAll := inr_23 (List.mem_of_getElem? (i := 15) rfl)
theorem hqV_X5_isShunned : yX5_isShunned.cls = RX5 ∧ yX5_isShunned.cls ≠ "java/lang/invoke/MethodHandle" ∧ yX5_isShunned.cls ≠ "java/lang/invoke/VarHandle" ∧ (parseMethodDescriptor yX5_isShunned.desc).map (fun d => d.parameters.length) = some 0 := by decide +kernel
abbrev rm_Search_finish : Room := { frames := 1, cells := 0, slots := 0, locals := 26 }
def wp_Search_finish_116 (post : ST → Prop) (X : ST) (l4 : Int32) : Prop :=
  ∀ X11 : ST, X11 = xs_Search_bestLength X l4 → ¬ (0 : Int32) < 0 ∧ ¬ (0 : Int32) < 0 ∧ ¬ (x_Search_size X11) < 0 ∧ (0 : Int32).toNatClampNeg + (x_Search_size X11).toNatClampNeg ≤ 8 ∧ (0 : Int32).toNatClampNeg + (x_Search_size X11).toNatClampNeg ≤ 8 ∧ (∀ X12 : ST, X12 = xs_Search_best X11 (va_cpy (x_Search_order X11) (x_Search_best X11) (0 : Int32).toNatClampNeg (0 : Int32).toNatClampNeg (x_Search_size X11).toNatClampNeg) → post X12)
set_option maxHeartbeats 4000000 in
set_option maxRecDepth 100000 in
theorem lb_Search_finish_116 {κ : Cx} {g : Gx} {M : ST} (hκ : CF κ g RX5 cX5_finish wq_X5_finish 5 rm_Search_finish) {post : ST → Prop} (hR : RtxV κ g 5 cX5_finish M post) : ∀ (X : ST) (l4 : Int32), wp_Search_finish_116 post X l4 → Jw κ g 5 X M [(0, .ref (g.2.1 5)), (4, .int l4)] 116 [] := by
  intro X l4  h
  unfold wp_Search_finish_116 at h
  refine j_aload_n (pc' := 117) hκ 0 rfl rfl dX5_finish_116 rfl ?_
  refine j_iload (pc' := 119) hκ 1 rfl dX5_finish_117 rfl ?_
  refine jp_5_9 (pc' := 122) hκ (mi inlX5) (fl_in hκ (mc wm_5_16)) dX5_finish_119 rfl ?_
  refine j_nmX (fun X11 eX11 => ?_)
  replace h := h X11 eX11
  refine j_aload_n (pc' := 123) hκ 0 rfl rfl dX5_finish_122 rfl ?_
  refine jg_5_4 (pc' := 126) hκ (mi inlX5) (fl_in hκ (mc wm_5_10)) dX5_finish_123 rfl ?_
  refine j_iconst (pc' := 127) (v := 0) hκ (by decide) dX5_finish_126 rfl ?_
  refine j_aload_n (pc' := 128) hκ 0 rfl rfl dX5_finish_127 rfl ?_
  refine jg_5_5 (pc' := 131) hκ (mi inlX5) (fl_in hκ (mc wm_5_11)) dX5_finish_128 rfl ?_
  refine j_iconst (pc' := 132) (v := 0) hκ (by decide) dX5_finish_131 rfl ?_
  refine j_aload_n (pc' := 133) hκ 0 rfl rfl dX5_finish_132 rfl ?_
  refine jg_5_8 (pc' := 136) hκ (mi inlX5) (fl_in hκ (mc wm_5_14)) dX5_finish_133 rfl ?_
  refine jx_copyi (pc' := 139) hκ (ah_31 g) (ah_32 g) h.1 h.2.1 h.2.2.1 h.2.2.2.1 h.2.2.2.2.1 (mc wm_22_8) (mc wm_22_9) (mc wm_22_10) (mc wm_22_11) (Nat.le_of_ble_eq_true rfl) (Nat.le_of_ble_eq_true rfl) dX5_finish_136 rfl ?_
  replace h := h.2.2.2.2.2
  refine j_nmX (fun X12 eX12 => ?_)
  replace h := h X12 eX12
  exact hR _ _ _ dX5_finish_139 h
def wp_Search_finish (X : ST) (p1 : Int32) (post : ST → Prop) : Prop :=
  vp_in 0 8 ∧ (∀ v1 : Int32, v1 = x_Search_order X (0 : Int32).toNatClampNeg → vp_in ((x_Search_size X) - 1) 8 ∧ (∀ v2 : Int32, v2 = x_Search_order X ((x_Search_size X) - 1).toNatClampNeg → vp_in v2 12 ∧ (vp_in v1 12 ∧ (∀ v4 : Int32, v4 = p1 + (x_gaps X (v2.toNatClampNeg) v1.toNatClampNeg) → ((x_Search_bestLength X) ≤ v4 → (post X)) ∧ (¬ (x_Search_bestLength X) ≤ v4 → (vp_in 1 8 ∧ ((v2 < (x_Search_order X (1 : Int32).toNatClampNeg) → (post X)) ∧ (¬ v2 < (x_Search_order X (1 : Int32).toNatClampNeg) → (vp_in v2 12 ∧ (wp_LR_isIn X (x_Search_bans X v2.toNatClampNeg) v1 (fun r6 X5 => (¬ r6 = 0 → (post X5)) ∧ (r6 = 0 → (vp_in ((x_Search_size X5) - 2) 8 ∧ (wp_Search_isContent X5 v2 (x_Search_order X5 ((x_Search_size X5) - 2).toNatClampNeg) v1 (fun r8 X7 => (r8 = 0 → (post X7)) ∧ (¬ r8 = 0 → (vp_in 1 8 ∧ (wp_Search_isContent X7 v1 v2 (x_Search_order X7 (1 : Int32).toNatClampNeg) (fun r10 X9 => (r10 = 0 → (post X9)) ∧ (¬ r10 = 0 → (((x_Search_shuns X9) = 0 → (wp_Search_finish_116 post X9 v4)) ∧ (¬ (x_Search_shuns X9) = 0 → (wp_Search_isShunned X9 (fun r14 X13 => (r14 = 0 → (wp_Search_finish_116 post X13 v4)) ∧ (¬ r14 = 0 → (post X13))))))))))))))))))))))))))
set_option maxHeartbeats 4000000 in
set_option maxRecDepth 100000 in
theorem lb_Search_finish {κ : Cx} {g : Gx} {M : ST} (hκ : CF κ g RX5 cX5_finish wq_X5_finish 5 rm_Search_finish) {post : ST → Prop} (hR : RtxV κ g 5 cX5_finish M post) {X : ST} {p1 : Int32} (h : wp_Search_finish X p1 post) : Jw κ g 5 X M [(0, .ref (g.2.1 5)), (1, .int p1)] 0 [] := by
  unfold wp_Search_finish at h
  refine j_aload_n (pc' := 1) hκ 0 rfl rfl dX5_finish_0 rfl ?_
  refine jg_5_4 (pc' := 4) hκ (mi inlX5) (fl_in hκ (mc wm_5_10)) dX5_finish_1 rfl ?_
  refine j_iconst (pc' := 5) (v := 0) hκ (by decide) dX5_finish_4 rfl ?_
  refine jx_iald (pc' := 6) hκ (ah_31 g) h.1 dX5_finish_5 rfl ?_
  replace h := h.2
  refine j_topi (fun v1 ev1 => ?_)
  replace h := h v1 ev1
  refine j_istore_n (pc' := 7) (lv' := [(2, .int v1), (0, .ref (g.2.1 5)), (1, .int p1)]) hκ (Nat.le_of_ble_eq_true rfl) rfl rfl dX5_finish_6 rfl ?_
  refine j_aload_n (pc' := 8) hκ 1 rfl rfl dX5_finish_7 rfl ?_
  refine jg_5_4 (pc' := 11) hκ (mi inlX5) (fl_in hκ (mc wm_5_10)) dX5_finish_8 rfl ?_
  refine j_aload_n (pc' := 12) hκ 1 rfl rfl dX5_finish_11 rfl ?_
  refine jg_5_8 (pc' := 15) hκ (mi inlX5) (fl_in hκ (mc wm_5_14)) dX5_finish_12 rfl ?_
  refine j_iconst (pc' := 16) (v := 1) hκ (by decide) dX5_finish_15 rfl ?_
  refine j_isub (pc' := 17) hκ dX5_finish_16 rfl ?_
  refine jx_iald (pc' := 18) hκ (ah_31 g) h.1 dX5_finish_17 rfl ?_
  replace h := h.2
  refine j_topi (fun v2 ev2 => ?_)
  replace h := h v2 ev2
  refine j_istore_n (pc' := 19) (lv' := [(3, .int v2), (2, .int v1), (0, .ref (g.2.1 5)), (1, .int p1)]) hκ (Nat.le_of_ble_eq_true rfl) rfl rfl dX5_finish_18 rfl ?_
  refine j_iload_n (pc' := 20) hκ 3 rfl rfl dX5_finish_19 rfl ?_
  refine j_aload_n (pc' := 21) hκ 2 rfl rfl dX5_finish_20 rfl ?_
  refine jg_5_0 (pc' := 24) hκ (mi inlX5) (fl_in hκ (mc wm_5_17)) dX5_finish_21 rfl ?_
  refine jg_3_7 (pc' := 27) hκ (mi inlX2) (fl_ne hκ 41 rfl) dX5_finish_24 rfl ?_
  refine j_iload_n (pc' := 28) hκ 0 rfl rfl dX5_finish_27 rfl ?_
  refine j_aald (pc' := 29) (q := 26) (t := 3) hκ (wg_26 g _ _) rfl h.1 dX5_finish_28 rfl ?_
  have hr3 : v2.toNatClampNeg < 12 := Nat.not_le.mp fun q => h.1 (Or.inr q)
  replace h := h.2
  refine j_iload_n (pc' := 30) hκ 1 rfl rfl dX5_finish_29 rfl ?_
  refine jx_iald (pc' := 31) hκ (ah_gaps g hr3) h.1 dX5_finish_30 rfl ?_
  replace h := h.2
  refine j_iadd (pc' := 32) hκ dX5_finish_31 rfl ?_
  refine j_topi (fun v4 ev4 => ?_)
  replace h := h v4 ev4
  refine j_istore (pc' := 34) (lv' := [(4, .int v4), (3, .int v2), (2, .int v1), (0, .ref (g.2.1 5)), (1, .int p1)]) hκ (Nat.le_of_ble_eq_true rfl) rfl dX5_finish_32 rfl ?_
  refine j_iload (pc' := 36) hκ 0 rfl dX5_finish_34 rfl ?_
  refine j_aload_n (pc' := 37) hκ 3 rfl rfl dX5_finish_36 rfl ?_
  refine jg_5_9 (pc' := 40) hκ (mi inlX5) (fl_in hκ (mc wm_5_16)) dX5_finish_37 rfl ?_
  refine j_icmp_ge (tgt := 115) (pc' := 43) hκ dX5_finish_40 (by decide) rfl (fun c => ?_) (fun c => ?_)
  · replace h := h.1 c
    exact hR _ _ _ dX5_finish_115 h
  · replace h := h.2 c
    refine j_iload_n (pc' := 44) hκ 1 rfl rfl dX5_finish_43 rfl ?_
    refine j_aload_n (pc' := 45) hκ 3 rfl rfl dX5_finish_44 rfl ?_
    refine jg_5_4 (pc' := 48) hκ (mi inlX5) (fl_in hκ (mc wm_5_10)) dX5_finish_45 rfl ?_
    refine j_iconst (pc' := 49) (v := 1) hκ (by decide) dX5_finish_48 rfl ?_
    refine jx_iald (pc' := 50) hκ (ah_31 g) h.1 dX5_finish_49 rfl ?_
    replace h := h.2
    refine j_icmp_lt (tgt := 115) (pc' := 53) hκ dX5_finish_50 (by decide) rfl (fun c => ?_) (fun c => ?_)
    · replace h := h.1 c
      exact hR _ _ _ dX5_finish_115 h
    · replace h := h.2 c
      refine j_aload_n (pc' := 54) hκ 3 rfl rfl dX5_finish_53 rfl ?_
      refine jg_5_2 (pc' := 57) hκ (mi inlX5) (fl_in hκ (mc wm_5_8)) dX5_finish_54 rfl ?_
      refine j_iload_n (pc' := 58) hκ 1 rfl rfl dX5_finish_57 rfl ?_
      refine jx_iald (pc' := 59) hκ (ah_29 g) h.1 dX5_finish_58 rfl ?_
      replace h := h.2
      refine j_iload_n (pc' := 60) hκ 2 rfl rfl dX5_finish_59 rfl ?_
      refine jx_callNi (pc' := 63) hκ (c_LR_isIn (dg hκ) h) rfl rfl rfl (gN wm_18_4) 11 rfl (mc wm_1_2) (mc wm_18_3) hqS_X9_isIn ⟨Nat.le_of_ble_eq_true rfl, Nat.le_of_ble_eq_true rfl⟩ rfl rfl (Nat.le_of_ble_eq_true rfl) dX5_finish_60 rfl (fun r6 X5 h => ?_)
      refine j_if_ne (tgt := 115) (pc' := 66) hκ dX5_finish_63 (by decide) rfl (fun c => ?_) (fun c => ?_)
      · replace h := h.1 c
        exact hR _ _ _ dX5_finish_115 h
      · replace h := h.2 c
        refine j_aload_n (pc' := 67) hκ 3 rfl rfl dX5_finish_66 rfl ?_
        refine j_iload_n (pc' := 68) hκ 1 rfl rfl dX5_finish_67 rfl ?_
        refine j_aload_n (pc' := 69) hκ 3 rfl rfl dX5_finish_68 rfl ?_
        refine jg_5_4 (pc' := 72) hκ (mi inlX5) (fl_in hκ (mc wm_5_10)) dX5_finish_69 rfl ?_
        refine j_aload_n (pc' := 73) hκ 3 rfl rfl dX5_finish_72 rfl ?_
        refine jg_5_8 (pc' := 76) hκ (mi inlX5) (fl_in hκ (mc wm_5_14)) dX5_finish_73 rfl ?_
        refine j_iconst (pc' := 77) (v := 2) hκ (by decide) dX5_finish_76 rfl ?_
        refine j_isub (pc' := 78) hκ dX5_finish_77 rfl ?_
        refine jx_iald (pc' := 79) hκ (ah_31 g) h.1 dX5_finish_78 rfl ?_
        replace h := h.2
        refine j_iload_n (pc' := 80) hκ 2 rfl rfl dX5_finish_79 rfl ?_
        refine jx_callVi (pc' := 83) hκ (c_Search_isContent (dg hκ) h) rfl rfl rfl (gV wm_23_8 wm_23_9 wm_23_10 wm_2_7 wm_23_11) hqV_X5_isContent ⟨Nat.le_of_ble_eq_true rfl, Nat.le_of_ble_eq_true rfl⟩ (wg_5 g _ _) rfl rfl rfl (Nat.le_of_ble_eq_true rfl) dX5_finish_80 rfl (fun r8 X7 h => ?_)
        refine j_if_eq (tgt := 115) (pc' := 86) hκ dX5_finish_83 (by decide) rfl (fun c => ?_) (fun c => ?_)
        · replace h := h.1 c
          exact hR _ _ _ dX5_finish_115 h
        · replace h := h.2 c
          refine j_aload_n (pc' := 87) hκ 3 rfl rfl dX5_finish_86 rfl ?_
          refine j_iload_n (pc' := 88) hκ 2 rfl rfl dX5_finish_87 rfl ?_
          refine j_iload_n (pc' := 89) hκ 1 rfl rfl dX5_finish_88 rfl ?_
          refine j_aload_n (pc' := 90) hκ 3 rfl rfl dX5_finish_89 rfl ?_
          refine jg_5_4 (pc' := 93) hκ (mi inlX5) (fl_in hκ (mc wm_5_10)) dX5_finish_90 rfl ?_
          refine j_iconst (pc' := 94) (v := 1) hκ (by decide) dX5_finish_93 rfl ?_
          refine jx_iald (pc' := 95) hκ (ah_31 g) h.1 dX5_finish_94 rfl ?_
          replace h := h.2
          refine jx_callVi (pc' := 98) hκ (c_Search_isContent (dg hκ) h) rfl rfl rfl (gV wm_23_8 wm_23_9 wm_23_10 wm_2_7 wm_23_11) hqV_X5_isContent ⟨Nat.le_of_ble_eq_true rfl, Nat.le_of_ble_eq_true rfl⟩ (wg_5 g _ _) rfl rfl rfl (Nat.le_of_ble_eq_true rfl) dX5_finish_95 rfl (fun r10 X9 h => ?_)
          refine j_if_eq (tgt := 115) (pc' := 101) hκ dX5_finish_98 (by decide) rfl (fun c => ?_) (fun c => ?_)
          · replace h := h.1 c
            exact hR _ _ _ dX5_finish_115 h
          · replace h := h.2 c
            refine j_aload_n (pc' := 102) hκ 3 rfl rfl dX5_finish_101 rfl ?_
            refine jg_5_7 (pc' := 105) hκ (mi inlX5) (fl_in hκ (mc wm_5_13)) dX5_finish_102 rfl ?_
            refine j_if_eq (tgt := 116) (pc' := 108) hκ dX5_finish_105 (by decide) rfl (fun c => ?_) (fun c => ?_)
            · replace h := h.1 c
              refine j_sub [3, 0] rfl ?_
              refine lb_Search_finish_116 hκ hR _ _  h
            · replace h := h.2 c
              refine j_aload_n (pc' := 109) hκ 3 rfl rfl dX5_finish_108 rfl ?_
              refine jx_callVi (pc' := 112) hκ (c_Search_isShunned (dg hκ) h) rfl rfl rfl (gV wm_23_12 wm_23_13 wm_23_14 wm_2_7 wm_23_15) hqV_X5_isShunned ⟨Nat.le_of_ble_eq_true rfl, Nat.le_of_ble_eq_true rfl⟩ (wg_5 g _ _) rfl rfl rfl (Nat.le_of_ble_eq_true rfl) dX5_finish_109 rfl (fun r14 X13 h => ?_)
              refine j_if_eq (tgt := 116) (pc' := 115) hκ dX5_finish_112 (by decide) rfl (fun c => ?_) (fun c => ?_)
              · replace h := h.1 c
                refine j_sub [3, 0] rfl ?_
                refine lb_Search_finish_116 hκ hR _ _  h
              · replace h := h.2 c
                exact hR _ _ _ dX5_finish_115 h
theorem c_Search_finish {g : Gx} (hg : Dg g) {X M : ST} {p1 : Int32} {post : ST → Prop} (h : wp_Search_finish X p1 post) (l : Launch) : Met l yX5_finish wq_X5_finish rm_Search_finish (va_Pc [.ref (g.2.1 5), .int p1] (PU g X M)) (va_Qv post (fun Y t => va_P g.1 vwCl (ww g Y M) t.heap) (wA g)) 0 0 (wA g) :=
  met_xv hg (by decide) rfl [.ref (g.2.1 5), .int p1] rfl (Nat.le_of_ble_eq_true rfl) (fun κ hκ hR => lb_Search_finish hκ hR h) l
theorem wm_23_4 : Cond.methodLink RX5 86 yX5_finish ∈ wAll := inr_23 (List.mem_of_getElem? (i := 4) rfl)
theorem wm_23_5 : Cond.instanceMethod yX5_finish ∈ wAll := inr_23 (List.mem_of_getElem? (i := 5) rfl)
theorem wm_23_6 : Cond.selects RX5 yX5_finish yX5_finish ∈ wAll := inr_23 (List.mem_of_getElem? (i := 6) rfl)
theorem wm_23_7 : Cond.code yX5_finish cX5_finish 5 none ∈ wAll := inr_23 (List.mem_of_getElem? (i := 7) rfl)
theorem hqV_X5_finish : yX5_finish.cls = RX5 ∧ yX5_finish.cls ≠ "java/lang/invoke/MethodHandle" ∧ yX5_finish.cls ≠ "java/lang/invoke/VarHandle" ∧ (parseMethodDescriptor yX5_finish.desc).map (fun d => d.parameters.length) = some 1 := by decide +kernel
abbrev rm_Search_extend (d : Nat) : Room := { frames := 2 + d, cells := 0, slots := 0, locals := 50 + d * 27 }
def wp_Search_extend_27_s (self : ST → Int32 → Int32 → Int32 → (ST → Prop) → Prop) (K139 : ST → Prop) (post : ST → Prop) (rec : ST → Int32 → Int32 → Int32 → Int32 → Int32 → Prop) (X : ST) (l1 : Int32) (l2 : Int32) (l3 : Int32) (l4 : Int32) (l5 : Int32) : Prop :=
  ((x_Search_size X) ≤ l5 → (K139 X)) ∧ (¬ (x_Search_size X) ≤ l5 → (vp_in l5 8 ∧ (∀ v2 : Int32, v2 = x_Search_live X l5.toNatClampNeg → wp_LR_isIn X l2 v2 (fun r4 X3 => (¬ r4 = 0 → (rec X3 l1 l2 l3 l4 (l5 + 1))) ∧ (r4 = 0 → (wp_Search_mayFollow X3 l1 l4 v2 (fun r6 X5 => (r6 = 0 → (rec X5 l1 l2 l3 l4 (l5 + 1))) ∧ (¬ r6 = 0 → (vp_in l4 12 ∧ (vp_in v2 12 ∧ (∀ v8 : Int32, v8 = l3 + (x_gaps X5 (l4.toNatClampNeg) v2.toNatClampNeg) → vp_in v2 12 ∧ (vp_in 0 8 ∧ (vp_in (x_Search_order X5 (0 : Int32).toNatClampNeg) 12 ∧ (((x_Search_bestLength X5) ≤ (v8 + (x_gaps X5 (v2.toNatClampNeg) (x_Search_order X5 (0 : Int32).toNatClampNeg).toNatClampNeg)) → (rec X5 l1 l2 l3 l4 (l5 + 1))) ∧ (¬ (x_Search_bestLength X5) ≤ (v8 + (x_gaps X5 (v2.toNatClampNeg) (x_Search_order X5 (0 : Int32).toNatClampNeg).toNatClampNeg)) → (vp_in l1 8 ∧ (∀ X10 : ST, X10 = xs_Search_order X5 (upd (x_Search_order X5) l1.toNatClampNeg v2) → self X10 (l1 + 1) (l2 ||| ((1 : Int32) <<< (v2 &&& 31))) v8 (fun X11 => rec X11 l1 l2 l3 l4 (l5 + 1)))))))))))))))))))
def wp_Search_extend_27 (self : ST → Int32 → Int32 → Int32 → (ST → Prop) → Prop) (K139 : ST → Prop) (post : ST → Prop) : Nat → ST → Int32 → Int32 → Int32 → Int32 → Int32 → Prop
  | 0 => fun _ _ _ _ _ _ => False
  | n + 1 => wp_Search_extend_27_s self K139 post (wp_Search_extend_27 self K139 post n)
set_option maxHeartbeats 4000000 in
set_option maxRecDepth 100000 in
theorem lb_Search_extend_27 {d : Nat} {κ : Cx} {g : Gx} {M : ST} (hκ : CF κ g RX5 cX5_extend wq_X5_extend 8 (rm_Search_extend (d + 1))) {post : ST → Prop} (hR : RtxV κ g 8 cX5_extend M post) {self : ST → Int32 → Int32 → Int32 → (ST → Prop) → Prop} (hself : ∀ (X : ST) (a b c : Int32) (po : ST → Prop), self X a b c po → ∀ l, Met l yX5_extend wq_X5_extend (rm_Search_extend d) (va_Pc [.ref (g.2.1 5), .int a, .int b, .int c] (PU g X M)) (va_Qv po (fun Y t => va_P g.1 vwCl (ww g Y M) t.heap) (wA g)) 0 0 (wA g)) {K139 : ST → Prop} (hK139 : ∀ (X : ST), K139 X → Jw κ g 8 X M [] 139 []) : ∀ (n : Nat) (X : ST) (l1 : Int32) (l2 : Int32) (l3 : Int32) (l4 : Int32) (l5 : Int32), wp_Search_extend_27 self K139 post n X l1 l2 l3 l4 l5 → Jw κ g 8 X M [(0, .ref (g.2.1 5)), (1, .int l1), (2, .int l2), (3, .int l3), (4, .int l4), (5, .int l5)] 27 [] := by
  intro n
  induction n with
  | zero =>
    intro X l1 l2 l3 l4 l5  h
    exact h.elim
  | succ n ih =>
    intro X l1 l2 l3 l4 l5  h
    have h : wp_Search_extend_27_s self K139 post (wp_Search_extend_27 self K139 post n) X l1 l2 l3 l4 l5 := h
    unfold wp_Search_extend_27_s at h
    refine j_iload (pc' := 29) hκ 5 rfl dX5_extend_27 rfl ?_
    refine j_aload_n (pc' := 30) hκ 0 rfl rfl dX5_extend_29 rfl ?_
    refine jg_5_8 (pc' := 33) hκ (mi inlX5) (fl_in hκ (mc wm_5_14)) dX5_extend_30 rfl ?_
    refine j_icmp_ge (tgt := 139) (pc' := 36) hκ dX5_extend_33 (by decide) rfl (fun c => ?_) (fun c => ?_)
    · replace h := h.1 c
      refine j_sub [] rfl ?_
      exact hK139 _  h
    · replace h := h.2 c
      refine j_aload_n (pc' := 37) hκ 0 rfl rfl dX5_extend_36 rfl ?_
      refine jg_5_3 (pc' := 40) hκ (mi inlX5) (fl_in hκ (mc wm_5_9)) dX5_extend_37 rfl ?_
      refine j_iload (pc' := 42) hκ 5 rfl dX5_extend_40 rfl ?_
      refine jx_iald (pc' := 43) hκ (ah_30 g) h.1 dX5_extend_42 rfl ?_
      replace h := h.2
      refine j_topi (fun v2 ev2 => ?_)
      replace h := h v2 ev2
      refine j_istore (pc' := 45) (lv' := [(6, .int v2), (0, .ref (g.2.1 5)), (1, .int l1), (2, .int l2), (3, .int l3), (4, .int l4), (5, .int l5)]) hκ (Nat.le_of_ble_eq_true rfl) rfl dX5_extend_43 rfl ?_
      refine j_iload_n (pc' := 46) hκ 3 rfl rfl dX5_extend_45 rfl ?_
      refine j_iload (pc' := 48) hκ 0 rfl dX5_extend_46 rfl ?_
      refine jx_callNi (pc' := 51) hκ (c_LR_isIn (dg hκ) h) rfl rfl rfl (gN wm_18_4) 11 rfl (mc wm_1_2) (mc wm_18_3) hqS_X9_isIn ⟨by show 0 + 1 ≤ 2 + (d + 1); omega, by show 8 + (2 + 11) + 0 ≤ 50 + (d + 1) * 27; omega⟩ rfl rfl (Nat.le_of_ble_eq_true rfl) dX5_extend_48 rfl (fun r4 X3 h => ?_)
      refine j_if_ne (tgt := 133) (pc' := 54) hκ dX5_extend_51 (by decide) rfl (fun c => ?_) (fun c => ?_)
      · replace h := h.1 c
        refine j_iinc (pc' := 136) (v := l5 + 1) (lv' := [(5, .int (l5 + 1)), (6, .int v2), (0, .ref (g.2.1 5)), (1, .int l1), (2, .int l2), (3, .int l3), (4, .int l4)]) hκ 6 rfl rfl (Nat.le_of_ble_eq_true rfl) rfl dX5_extend_133 rfl ?_
        refine j_goto (pc' := 27) hκ (by decide) dX5_extend_136 ?_
        refine j_sub [2, 3, 4, 5, 6, 0] rfl ?_
        exact ih _ _ _ _ _ _  h
      · replace h := h.2 c
        refine j_aload_n (pc' := 55) hκ 1 rfl rfl dX5_extend_54 rfl ?_
        refine j_iload_n (pc' := 56) hκ 2 rfl rfl dX5_extend_55 rfl ?_
        refine j_iload (pc' := 58) hκ 5 rfl dX5_extend_56 rfl ?_
        refine j_iload (pc' := 60) hκ 0 rfl dX5_extend_58 rfl ?_
        refine jx_callVi (pc' := 63) hκ (c_Search_mayFollow (dg hκ) h) rfl rfl rfl (gV wm_23_16 wm_23_17 wm_23_18 wm_2_7 wm_23_19) hqV_X5_mayFollow ⟨by show 1 + 1 ≤ 2 + (d + 1); omega, by show 8 + (4 + 11) + 23 ≤ 50 + (d + 1) * 27; omega⟩ (wg_5 g _ _) rfl rfl rfl (Nat.le_of_ble_eq_true rfl) dX5_extend_60 rfl (fun r6 X5 h => ?_)
        refine j_if_eq (tgt := 133) (pc' := 66) hκ dX5_extend_63 (by decide) rfl (fun c => ?_) (fun c => ?_)
        · replace h := h.1 c
          refine j_iinc (pc' := 136) (v := l5 + 1) (lv' := [(5, .int (l5 + 1)), (6, .int v2), (0, .ref (g.2.1 5)), (1, .int l1), (2, .int l2), (3, .int l3), (4, .int l4)]) hκ 6 rfl rfl (Nat.le_of_ble_eq_true rfl) rfl dX5_extend_133 rfl ?_
          refine j_goto (pc' := 27) hκ (by decide) dX5_extend_136 ?_
          refine j_sub [2, 3, 4, 5, 6, 0] rfl ?_
          exact ih _ _ _ _ _ _  h
        · replace h := h.2 c
          refine j_iload_n (pc' := 67) hκ 4 rfl rfl dX5_extend_66 rfl ?_
          refine j_aload_n (pc' := 68) hκ 1 rfl rfl dX5_extend_67 rfl ?_
          refine jg_5_0 (pc' := 71) hκ (mi inlX5) (fl_in hκ (mc wm_5_17)) dX5_extend_68 rfl ?_
          refine jg_3_7 (pc' := 74) hκ (mi inlX2) (fl_ne hκ 41 rfl) dX5_extend_71 rfl ?_
          refine j_iload (pc' := 76) hκ 5 rfl dX5_extend_74 rfl ?_
          refine j_aald (pc' := 77) (q := 26) (t := 3) hκ (wg_26 g _ _) rfl h.1 dX5_extend_76 rfl ?_
          have hr7 : l4.toNatClampNeg < 12 := Nat.not_le.mp fun q => h.1 (Or.inr q)
          replace h := h.2
          refine j_iload (pc' := 79) hκ 0 rfl dX5_extend_77 rfl ?_
          refine jx_iald (pc' := 80) hκ (ah_gaps g hr7) h.1 dX5_extend_79 rfl ?_
          replace h := h.2
          refine j_iadd (pc' := 81) hκ dX5_extend_80 rfl ?_
          refine j_topi (fun v8 ev8 => ?_)
          replace h := h v8 ev8
          refine j_istore (pc' := 83) (lv' := [(7, .int v8), (6, .int v2), (0, .ref (g.2.1 5)), (1, .int l1), (2, .int l2), (3, .int l3), (4, .int l4), (5, .int l5)]) hκ (Nat.le_of_ble_eq_true rfl) rfl dX5_extend_81 rfl ?_
          refine j_iload (pc' := 85) hκ 0 rfl dX5_extend_83 rfl ?_
          refine j_aload_n (pc' := 86) hκ 2 rfl rfl dX5_extend_85 rfl ?_
          refine jg_5_0 (pc' := 89) hκ (mi inlX5) (fl_in hκ (mc wm_5_17)) dX5_extend_86 rfl ?_
          refine jg_3_7 (pc' := 92) hκ (mi inlX2) (fl_ne hκ 41 rfl) dX5_extend_89 rfl ?_
          refine j_iload (pc' := 94) hκ 1 rfl dX5_extend_92 rfl ?_
          refine j_aald (pc' := 95) (q := 26) (t := 3) hκ (wg_26 g _ _) rfl h.1 dX5_extend_94 rfl ?_
          have hr9 : v2.toNatClampNeg < 12 := Nat.not_le.mp fun q => h.1 (Or.inr q)
          replace h := h.2
          refine j_aload_n (pc' := 96) hκ 2 rfl rfl dX5_extend_95 rfl ?_
          refine jg_5_4 (pc' := 99) hκ (mi inlX5) (fl_in hκ (mc wm_5_10)) dX5_extend_96 rfl ?_
          refine j_iconst (pc' := 100) (v := 0) hκ (by decide) dX5_extend_99 rfl ?_
          refine jx_iald (pc' := 101) hκ (ah_31 g) h.1 dX5_extend_100 rfl ?_
          replace h := h.2
          refine jx_iald (pc' := 102) hκ (ah_gaps g hr9) h.1 dX5_extend_101 rfl ?_
          replace h := h.2
          refine j_iadd (pc' := 103) hκ dX5_extend_102 rfl ?_
          refine j_aload_n (pc' := 104) hκ 2 rfl rfl dX5_extend_103 rfl ?_
          refine jg_5_9 (pc' := 107) hκ (mi inlX5) (fl_in hκ (mc wm_5_16)) dX5_extend_104 rfl ?_
          refine j_icmp_ge (tgt := 133) (pc' := 110) hκ dX5_extend_107 (by decide) rfl (fun c => ?_) (fun c => ?_)
          · replace h := h.1 c
            refine j_iinc (pc' := 136) (v := l5 + 1) (lv' := [(5, .int (l5 + 1)), (7, .int v8), (6, .int v2), (0, .ref (g.2.1 5)), (1, .int l1), (2, .int l2), (3, .int l3), (4, .int l4)]) hκ 7 rfl rfl (Nat.le_of_ble_eq_true rfl) rfl dX5_extend_133 rfl ?_
            refine j_goto (pc' := 27) hκ (by decide) dX5_extend_136 ?_
            refine j_sub [3, 4, 5, 6, 7, 0] rfl ?_
            exact ih _ _ _ _ _ _  h
          · replace h := h.2 c
            refine j_aload_n (pc' := 111) hκ 2 rfl rfl dX5_extend_110 rfl ?_
            refine jg_5_4 (pc' := 114) hκ (mi inlX5) (fl_in hκ (mc wm_5_10)) dX5_extend_111 rfl ?_
            refine j_iload_n (pc' := 115) hκ 3 rfl rfl dX5_extend_114 rfl ?_
            refine j_iload (pc' := 117) hκ 1 rfl dX5_extend_115 rfl ?_
            refine jx_iast (pc' := 118) hκ (ah_31 g) h.1 dX5_extend_117 rfl ?_
            replace h := h.2
            refine j_nmX (fun X10 eX10 => ?_)
            replace h := h X10 eX10
            refine j_aload_n (pc' := 119) hκ 2 rfl rfl dX5_extend_118 rfl ?_
            refine j_iload_n (pc' := 120) hκ 3 rfl rfl dX5_extend_119 rfl ?_
            refine j_iconst (pc' := 121) (v := 1) hκ (by decide) dX5_extend_120 rfl ?_
            refine j_iadd (pc' := 122) hκ dX5_extend_121 rfl ?_
            refine j_iload_n (pc' := 123) hκ 4 rfl rfl dX5_extend_122 rfl ?_
            refine j_iconst (pc' := 124) (v := 1) hκ (by decide) dX5_extend_123 rfl ?_
            refine j_iload (pc' := 126) hκ 1 rfl dX5_extend_124 rfl ?_
            refine j_ishl (pc' := 127) hκ dX5_extend_126 rfl ?_
            refine j_ior (pc' := 128) hκ dX5_extend_127 rfl ?_
            refine j_iload (pc' := 130) hκ 0 rfl dX5_extend_128 rfl ?_
            refine jx_callVv (pc' := 133) hκ (hself _ _ _ _ _ h) rfl rfl rfl (gV wm_23_0 wm_23_1 wm_23_2 wm_2_7 wm_23_3) hqV_X5_extend ⟨by show 2 + d + 1 ≤ 2 + (d + 1); omega, by show 8 + (8 + 11) + (50 + d * 27) ≤ 50 + (d + 1) * 27; omega⟩ (wg_5 g _ _) rfl rfl rfl (Nat.le_of_ble_eq_true rfl) dX5_extend_130 rfl (fun X11 h => ?_)
            refine j_iinc (pc' := 136) (v := l5 + 1) (lv' := [(5, .int (l5 + 1)), (7, .int v8), (6, .int v2), (0, .ref (g.2.1 5)), (1, .int l1), (2, .int l2), (3, .int l3), (4, .int l4)]) hκ 7 rfl rfl (Nat.le_of_ble_eq_true rfl) rfl dX5_extend_133 rfl ?_
            refine j_goto (pc' := 27) hκ (by decide) dX5_extend_136 ?_
            refine j_sub [3, 4, 5, 6, 7, 0] rfl ?_
            exact ih _ _ _ _ _ _  h
def wp_Search_extend_s (self : ST → Int32 → Int32 → Int32 → (ST → Prop) → Prop) (X : ST) (p1 p2 p3 : Int32) (post : ST → Prop) : Prop :=
  (p1 < (x_Search_size X) → (vp_in (p1 - 1) 8 ∧ (∀ v1 : Int32, v1 = x_Search_order X (p1 - 1).toNatClampNeg → ∃ n, wp_Search_extend_27 self (fun X13 => post X13) post n X p1 p2 p3 v1 1))) ∧ (¬ p1 < (x_Search_size X) → (wp_Search_finish X p3 (fun X14 => post X14)))
def wp_Search_extend : Nat → ST → Int32 → Int32 → Int32 → (ST → Prop) → Prop
  | 0 => fun _ _ _ _ _ => False
  | d + 1 => wp_Search_extend_s (wp_Search_extend d)
set_option maxHeartbeats 4000000 in
set_option maxRecDepth 100000 in
theorem lb_Search_extend {d : Nat} {κ : Cx} {g : Gx} {M : ST} (hκ : CF κ g RX5 cX5_extend wq_X5_extend 8 (rm_Search_extend (d + 1))) {post : ST → Prop} (hR : RtxV κ g 8 cX5_extend M post) {self : ST → Int32 → Int32 → Int32 → (ST → Prop) → Prop} (hself : ∀ (X : ST) (a b c : Int32) (po : ST → Prop), self X a b c po → ∀ l, Met l yX5_extend wq_X5_extend (rm_Search_extend d) (va_Pc [.ref (g.2.1 5), .int a, .int b, .int c] (PU g X M)) (va_Qv po (fun Y t => va_P g.1 vwCl (ww g Y M) t.heap) (wA g)) 0 0 (wA g)) {X : ST} {p1 p2 p3 : Int32} (h : wp_Search_extend_s self X p1 p2 p3 post) : Jw κ g 8 X M [(0, .ref (g.2.1 5)), (1, .int p1), (2, .int p2), (3, .int p3)] 0 [] := by
  unfold wp_Search_extend_s at h
  refine j_iload_n (pc' := 1) hκ 1 rfl rfl dX5_extend_0 rfl ?_
  refine j_aload_n (pc' := 2) hκ 0 rfl rfl dX5_extend_1 rfl ?_
  refine jg_5_8 (pc' := 5) hκ (mi inlX5) (fl_in hκ (mc wm_5_14)) dX5_extend_2 rfl ?_
  refine j_icmp_lt (tgt := 14) (pc' := 8) hκ dX5_extend_5 (by decide) rfl (fun c => ?_) (fun c => ?_)
  · replace h := h.1 c
    refine j_aload_n (pc' := 15) hκ 0 rfl rfl dX5_extend_14 rfl ?_
    refine jg_5_4 (pc' := 18) hκ (mi inlX5) (fl_in hκ (mc wm_5_10)) dX5_extend_15 rfl ?_
    refine j_iload_n (pc' := 19) hκ 1 rfl rfl dX5_extend_18 rfl ?_
    refine j_iconst (pc' := 20) (v := 1) hκ (by decide) dX5_extend_19 rfl ?_
    refine j_isub (pc' := 21) hκ dX5_extend_20 rfl ?_
    refine jx_iald (pc' := 22) hκ (ah_31 g) h.1 dX5_extend_21 rfl ?_
    replace h := h.2
    refine j_topi (fun v1 ev1 => ?_)
    replace h := h v1 ev1
    refine j_istore (pc' := 24) (lv' := [(4, .int v1), (0, .ref (g.2.1 5)), (1, .int p1), (2, .int p2), (3, .int p3)]) hκ (Nat.le_of_ble_eq_true rfl) rfl dX5_extend_22 rfl ?_
    refine j_iconst (pc' := 25) (v := 1) hκ (by decide) dX5_extend_24 rfl ?_
    refine j_istore (pc' := 27) (lv' := [(5, .int 1), (4, .int v1), (0, .ref (g.2.1 5)), (1, .int p1), (2, .int p2), (3, .int p3)]) hκ (Nat.le_of_ble_eq_true rfl) rfl dX5_extend_25 rfl ?_
    obtain ⟨n, h⟩ := h
    refine j_sub [2, 3, 4, 5, 1, 0] rfl ?_
    refine lb_Search_extend_27 hκ hR hself ?_ n _ _ _ _ _ _  h
    intro X13  h
    exact hR _ _ _ dX5_extend_139 h
  · replace h := h.2 c
    refine j_aload_n (pc' := 9) hκ 0 rfl rfl dX5_extend_8 rfl ?_
    refine j_iload_n (pc' := 10) hκ 3 rfl rfl dX5_extend_9 rfl ?_
    refine jx_callVv (pc' := 13) hκ (c_Search_finish (dg hκ) h) rfl rfl rfl (gV wm_23_4 wm_23_5 wm_23_6 wm_2_7 wm_23_7) hqV_X5_finish ⟨by show 1 + 1 ≤ 2 + (d + 1); omega, by show 8 + (5 + 11) + 26 ≤ 50 + (d + 1) * 27; omega⟩ (wg_5 g _ _) rfl rfl rfl (Nat.le_of_ble_eq_true rfl) dX5_extend_10 rfl (fun X14 h => ?_)
    exact hR _ _ _ dX5_extend_13 h
theorem c_Search_extend : ∀ (d : Nat) {g : Gx} (hg : Dg g) {X M : ST} {p1 p2 p3 : Int32} {post : ST → Prop} (h : wp_Search_extend d X p1 p2 p3 post) (l : Launch), Met l yX5_extend wq_X5_extend (rm_Search_extend d) (va_Pc [.ref (g.2.1 5), .int p1, .int p2, .int p3] (PU g X M)) (va_Qv post (fun Y t => va_P g.1 vwCl (ww g Y M) t.heap) (wA g)) 0 0 (wA g)
  | 0, _, _, _, _, _, _, _, _, h, _ => h.elim
  | d + 1, g, hg, X, M, p1, p2, p3, _, h, l => met_xv hg (by decide) rfl [.ref (g.2.1 5), .int p1, .int p2, .int p3] rfl (Nat.le_of_ble_eq_true rfl) (fun κ hκ hR => lb_Search_extend hκ hR (fun _ _ _ _ _ h l => c_Search_extend d hg h l) h) l
abbrev rm_Search_run : Room := { frames := 19, cells := 0, slots := 0, locals := 509 }
def wp_Search_run (X : ST) (post : Int32 → ST → Prop) : Prop :=
  ((x_Search_size X) < 3 → (post 0 X)) ∧ (¬ (x_Search_size X) < 3 → (wp_Search_isHungTogether X (fun r2 X1 => (¬ r2 = 0 → (vp_in 0 8 ∧ (vp_in 0 8 ∧ (∀ X3 : ST, X3 = xs_Search_order X1 (upd (x_Search_order X1) (0 : Int32).toNatClampNeg (x_Search_live X1 (0 : Int32).toNatClampNeg)) → vp_in 0 8 ∧ (∃ d, d ≤ 16 ∧ wp_Search_extend d X3 1 ((1 : Int32) <<< ((x_Search_live X3 (0 : Int32).toNatClampNeg) &&& 31)) 0 (fun X4 => ((x_Search_bestLength X4) = 2147483647 → (post 0 X4)) ∧ (¬ (x_Search_bestLength X4) = 2147483647 → (post 1 X4)))))))) ∧ (r2 = 0 → (post 0 X1)))))
set_option maxHeartbeats 4000000 in
set_option maxRecDepth 100000 in
theorem lb_Search_run {κ : Cx} {g : Gx} {M : ST} (hκ : CF κ g RX5 cX5_run wq_X5_run 1 rm_Search_run) {post : Int32 → ST → Prop} (hR : RtxZ κ g 1 cX5_run M post) {X : ST} (h : wp_Search_run X post) : Jw κ g 1 X M [(0, .ref (g.2.1 5))] 0 [] := by
  unfold wp_Search_run at h
  refine j_aload_n (pc' := 1) hκ 0 rfl rfl dX5_run_0 rfl ?_
  refine jg_5_8 (pc' := 4) hκ (mi inlX5) (fl_in hκ (mc wm_5_14)) dX5_run_1 rfl ?_
  refine j_iconst (pc' := 5) (v := 3) hκ (by decide) dX5_run_4 rfl ?_
  refine j_icmp_lt (tgt := 15) (pc' := 8) hκ dX5_run_5 (by decide) rfl (fun c => ?_) (fun c => ?_)
  · replace h := h.1 c
    refine j_iconst (pc' := 16) (v := 0) hκ (by decide) dX5_run_15 rfl ?_
    exact hR _ _ _ _ dX5_run_16 (Or.inl rfl) h
  · replace h := h.2 c
    refine j_aload_n (pc' := 9) hκ 0 rfl rfl dX5_run_8 rfl ?_
    refine jx_callVi (pc' := 12) hκ (c_Search_isHungTogether (dg hκ) h) rfl rfl rfl (gV wm_22_19 wm_22_20 wm_22_21 wm_2_7 wm_22_22) hqV_X5_isHungTogether ⟨Nat.le_of_ble_eq_true rfl, Nat.le_of_ble_eq_true rfl⟩ (wg_5 g _ _) rfl rfl rfl (Nat.le_of_ble_eq_true rfl) dX5_run_9 rfl (fun r2 X1 h => ?_)
    refine j_if_ne (tgt := 17) (pc' := 15) hκ dX5_run_12 (by decide) rfl (fun c => ?_) (fun c => ?_)
    · replace h := h.1 c
      refine j_aload_n (pc' := 18) hκ 0 rfl rfl dX5_run_17 rfl ?_
      refine jg_5_4 (pc' := 21) hκ (mi inlX5) (fl_in hκ (mc wm_5_10)) dX5_run_18 rfl ?_
      refine j_iconst (pc' := 22) (v := 0) hκ (by decide) dX5_run_21 rfl ?_
      refine j_aload_n (pc' := 23) hκ 0 rfl rfl dX5_run_22 rfl ?_
      refine jg_5_3 (pc' := 26) hκ (mi inlX5) (fl_in hκ (mc wm_5_9)) dX5_run_23 rfl ?_
      refine j_iconst (pc' := 27) (v := 0) hκ (by decide) dX5_run_26 rfl ?_
      refine jx_iald (pc' := 28) hκ (ah_30 g) h.1 dX5_run_27 rfl ?_
      replace h := h.2
      refine jx_iast (pc' := 29) hκ (ah_31 g) h.1 dX5_run_28 rfl ?_
      replace h := h.2
      refine j_nmX (fun X3 eX3 => ?_)
      replace h := h X3 eX3
      refine j_aload_n (pc' := 30) hκ 0 rfl rfl dX5_run_29 rfl ?_
      refine j_iconst (pc' := 31) (v := 1) hκ (by decide) dX5_run_30 rfl ?_
      refine j_iconst (pc' := 32) (v := 1) hκ (by decide) dX5_run_31 rfl ?_
      refine j_aload_n (pc' := 33) hκ 0 rfl rfl dX5_run_32 rfl ?_
      refine jg_5_3 (pc' := 36) hκ (mi inlX5) (fl_in hκ (mc wm_5_9)) dX5_run_33 rfl ?_
      refine j_iconst (pc' := 37) (v := 0) hκ (by decide) dX5_run_36 rfl ?_
      refine jx_iald (pc' := 38) hκ (ah_30 g) h.1 dX5_run_37 rfl ?_
      replace h := h.2
      refine j_ishl (pc' := 39) hκ dX5_run_38 rfl ?_
      refine j_iconst (pc' := 40) (v := 0) hκ (by decide) dX5_run_39 rfl ?_
      obtain ⟨d, hd9, h⟩ := h
      refine jx_callVv (pc' := 43) hκ (c_Search_extend d (dg hκ) h) rfl rfl rfl (gV wm_23_0 wm_23_1 wm_23_2 wm_2_7 wm_23_3) hqV_X5_extend ⟨by show 2 + d + 1 ≤ 19; omega, by show 8 + (8 + 11) + (50 + d * 27) ≤ 509; omega⟩ (wg_5 g _ _) rfl rfl rfl (Nat.le_of_ble_eq_true rfl) dX5_run_40 rfl (fun X4 h => ?_)
      refine j_aload_n (pc' := 44) hκ 0 rfl rfl dX5_run_43 rfl ?_
      refine jg_5_9 (pc' := 47) hκ (mi inlX5) (fl_in hκ (mc wm_5_16)) dX5_run_44 rfl ?_
      refine j_ldc (pc' := 49) hκ (mc wm_5_15) dX5_run_47 rfl ?_
      refine j_icmp_eq (tgt := 56) (pc' := 52) hκ dX5_run_49 (by decide) rfl (fun c => ?_) (fun c => ?_)
      · replace h := h.1 c
        refine j_iconst (pc' := 57) (v := 0) hκ (by decide) dX5_run_56 rfl ?_
        exact hR _ _ _ _ dX5_run_57 (Or.inl rfl) h
      · replace h := h.2 c
        refine j_iconst (pc' := 53) (v := 1) hκ (by decide) dX5_run_52 rfl ?_
        refine j_goto (pc' := 57) hκ (by decide) dX5_run_53 ?_
        exact hR _ _ _ _ dX5_run_57 (Or.inr rfl) h
    · replace h := h.2 c
      refine j_iconst (pc' := 16) (v := 0) hκ (by decide) dX5_run_15 rfl ?_
      exact hR _ _ _ _ dX5_run_16 (Or.inl rfl) h
theorem c_Search_run {g : Gx} (hg : Dg g) {X M : ST} {post : Int32 → ST → Prop} (h : wp_Search_run X post) (l : Launch) : Met l yX5_run wq_X5_run rm_Search_run (va_Pc [.ref (g.2.1 5)] (PU g X M)) (va_Qi post (fun Y t => va_P g.1 vwCl (ww g Y M) t.heap) (wA g)) 0 0 (wA g) :=
  met_xz hg (by decide) rfl [.ref (g.2.1 5)] rfl (Nat.le_of_ble_eq_true rfl) (fun κ hκ hR => lb_Search_run hκ hR h) l
theorem wm_22_15 : Cond.methodLink RX9 218 yX5_run ∈ wAll := inr_22 (List.mem_of_getElem? (i := 15) rfl)
theorem wm_22_16 : Cond.instanceMethod yX5_run ∈ wAll := inr_22 (List.mem_of_getElem? (i := 16) rfl)
theorem wm_22_17 : Cond.selects RX5 yX5_run yX5_run ∈ wAll := inr_22 (List.mem_of_getElem? (i := 17) rfl)
theorem wm_22_18 : Cond.code yX5_run cX5_run 1 (some .boolean) ∈ wAll := inr_22 (List.mem_of_getElem? (i := 18) rfl)
theorem hqV_X5_run : yX5_run.cls = RX5 ∧ yX5_run.cls ≠ "java/lang/invoke/MethodHandle" ∧ yX5_run.cls ≠ "java/lang/invoke/VarHandle" ∧ (parseMethodDescriptor yX5_run.desc).map (fun d => d.parameters.length) = some 0 := by decide +kernel
theorem wm_5_0 : Cond.fieldLink RX6 9 "LampRound$ToldRound" "order" "[I" ∈ wAll := inr_5 (List.mem_of_getElem? (i := 0) rfl)
theorem wm_24_0 : Cond.methodLink RX6 29 arraycopyName ∈ wAll := inr_24 (List.mem_of_getElem? (i := 0) rfl)
abbrev rm_Told_copyFrom : Room := { frames := 1, cells := 0, slots := 0, locals := 26 }
def wp_Told_copyFrom (X : ST) (k1 n1 : Nat) (p2 : Int32) (post : ST → Prop) : Prop :=
  ¬ (0 : Int32) < 0 ∧ ¬ (0 : Int32) < 0 ∧ ¬ p2 < 0 ∧ (0 : Int32).toNatClampNeg + p2.toNatClampNeg ≤ n1 ∧ (0 : Int32).toNatClampNeg + p2.toNatClampNeg ≤ 12 ∧ (∀ X1 : ST, X1 = xs_Told_order X (va_cpy (X.2.2.1 k1) (x_Told_order X) (0 : Int32).toNatClampNeg (0 : Int32).toNatClampNeg p2.toNatClampNeg) → ∀ X2 : ST, X2 = xs_Told_count X1 p2 → post X2)
set_option maxHeartbeats 4000000 in
set_option maxRecDepth 100000 in
theorem lb_Told_copyFrom {κ : Cx} {g : Gx} {M : ST} (hκ : CF κ g RX6 cX6_copyFrom wq_X6_copyFrom 3 rm_Told_copyFrom) {post : ST → Prop} (hR : RtxV κ g 3 cX6_copyFrom M post) {X : ST} {k1 n1 : Nat} {p2 : Int32} {a1 q1 : Nat} (hh1 : ahI g q1 k1 n1 a1) (h : wp_Told_copyFrom X k1 n1 p2 post) : Jw κ g 3 X M [(0, .ref (g.2.1 4)), (1, .ref a1), (2, .int p2)] 0 [] := by
  unfold wp_Told_copyFrom at h
  refine j_aload_n (pc' := 1) hκ 1 rfl rfl dX6_copyFrom_0 rfl ?_
  refine j_iconst (pc' := 2) (v := 0) hκ (by decide) dX6_copyFrom_1 rfl ?_
  refine j_aload_n (pc' := 3) hκ 0 rfl rfl dX6_copyFrom_2 rfl ?_
  refine jg_4_1 (pc' := 6) hκ (mi inlX6) (fl_in hκ (mc wm_5_0)) dX6_copyFrom_3 rfl ?_
  refine j_iconst (pc' := 7) (v := 0) hκ (by decide) dX6_copyFrom_6 rfl ?_
  refine j_iload_n (pc' := 8) hκ 2 rfl rfl dX6_copyFrom_7 rfl ?_
  refine jx_copyi (pc' := 11) hκ hh1 (ah_27 g) h.1 h.2.1 h.2.2.1 h.2.2.2.1 h.2.2.2.2.1 (mc wm_24_0) (mc wm_22_9) (mc wm_22_10) (mc wm_22_11) (Nat.le_of_ble_eq_true rfl) (Nat.le_of_ble_eq_true rfl) dX6_copyFrom_8 rfl ?_
  replace h := h.2.2.2.2.2
  refine j_nmX (fun X1 eX1 => ?_)
  replace h := h X1 eX1
  refine j_aload_n (pc' := 12) hκ 0 rfl rfl dX6_copyFrom_11 rfl ?_
  refine j_iload_n (pc' := 13) hκ 2 rfl rfl dX6_copyFrom_12 rfl ?_
  refine jp_4_2 (pc' := 16) hκ (mi inlX6) (fl_in hκ (mc wm_5_1)) dX6_copyFrom_13 rfl ?_
  refine j_nmX (fun X2 eX2 => ?_)
  replace h := h X2 eX2
  exact hR _ _ _ dX6_copyFrom_16 h
theorem c_Told_copyFrom {g : Gx} (hg : Dg g) {X M : ST} {k1 n1 : Nat} {p2 : Int32} {a1 q1 : Nat} (hh1 : ahI g q1 k1 n1 a1) {post : ST → Prop} (h : wp_Told_copyFrom X k1 n1 p2 post) (l : Launch) : Met l yX6_copyFrom wq_X6_copyFrom rm_Told_copyFrom (va_Pc [.ref (g.2.1 4), .ref a1, .int p2] (PU g X M)) (va_Qv post (fun Y t => va_P g.1 vwCl (ww g Y M) t.heap) (wA g)) 0 0 (wA g) :=
  met_xv hg (by decide) rfl [.ref (g.2.1 4), .ref a1, .int p2] rfl (Nat.le_of_ble_eq_true rfl) (fun κ hκ hR => lb_Told_copyFrom hκ hR hh1 h) l
