theorem wm_23_20 : Cond.methodLink RX9 226 yX6_copyFrom ∈ wAll := inr_23 (List.mem_of_getElem? (i := 20) rfl)
theorem wm_23_21 : Cond.instanceMethod yX6_copyFrom ∈ wAll := inr_23 (List.mem_of_getElem? (i := 21) rfl)
theorem wm_23_22 : Cond.selects RX6 yX6_copyFrom yX6_copyFrom ∈ wAll := inr_23 (List.mem_of_getElem? (i := 22) rfl)
theorem wm_23_23 : Cond.code yX6_copyFrom cX6_copyFrom 3 none ∈ wAll := inr_23 (List.mem_of_getElem? (i := 23) rfl)
theorem hqV_X6_copyFrom : yX6_copyFrom.cls = RX6 ∧ yX6_copyFrom.cls ≠ "java/lang/invoke/MethodHandle" ∧ yX6_copyFrom.cls ≠ "java/lang/invoke/VarHandle" ∧ (parseMethodDescriptor yX6_copyFrom.desc).map (fun d => d.parameters.length) = some 2 := by decide +kernel
abbrev rm_LR_least : Room := { frames := 20, cells := 0, slots := 0, locals := 529 }
def wp_LR_least (X : ST) (post : Int32 → ST → Prop) : Prop :=
  wp_LR_isLarge X (fun r2 X1 => (r2 = 0 → (wp_Search_begin X1 (fun X3 => wp_Search_run X3 (fun r6 X5 => (¬ r6 = 0 → (wp_Told_copyFrom X5 32 8 (x_Search_size X5) (fun X7 => post (x_Search_bestLength X7) X7))) ∧ (r6 = 0 → (post (-7) X5)))))) ∧ (¬ r2 = 0 → (post (-8) X1)))
set_option maxHeartbeats 4000000 in
set_option maxRecDepth 100000 in
theorem lb_LR_least {κ : Cx} {g : Gx} {M : ST} (hκ : CF κ g RX9 cX9_least wq_X9_least 1 rm_LR_least) {post : Int32 → ST → Prop} (hR : RtxI κ g 1 cX9_least M post) {X : ST} (h : wp_LR_least X post) : Jw κ g 1 X M [(0, .ref (g.2.1 0))] 0 [] := by
  unfold wp_LR_least at h
  refine j_aload_n (pc' := 1) hκ 0 rfl rfl dX9_least_0 rfl ?_
  refine jx_callVi (pc' := 4) hκ (c_LR_isLarge (dg hκ) h) rfl rfl rfl (gV wm_22_0 wm_22_1 wm_22_2 wm_1_2 wm_22_3) hqV_X9_isLarge ⟨Nat.le_of_ble_eq_true rfl, Nat.le_of_ble_eq_true rfl⟩ (wg_0 g _ _) rfl rfl rfl (Nat.le_of_ble_eq_true rfl) dX9_least_1 rfl (fun r2 X1 h => ?_)
  refine j_if_eq (tgt := 10) (pc' := 7) hκ dX9_least_4 (by decide) rfl (fun c => ?_) (fun c => ?_)
  · replace h := h.1 c
    refine j_aload_n (pc' := 11) hκ 0 rfl rfl dX9_least_10 rfl ?_
    refine jg_0_4 (pc' := 14) hκ (mi inlX9) (fl_in hκ (mc wm_2_8)) dX9_least_11 rfl ?_
    refine jx_callVv (pc' := 17) hκ (c_Search_begin (dg hκ) h) rfl rfl rfl (gV wm_22_4 wm_22_5 wm_22_6 wm_2_7 wm_22_7) hqV_X5_begin ⟨Nat.le_of_ble_eq_true rfl, Nat.le_of_ble_eq_true rfl⟩ (wg_5 g _ _) rfl rfl rfl (Nat.le_of_ble_eq_true rfl) dX9_least_14 rfl (fun X3 h => ?_)
    refine j_aload_n (pc' := 18) hκ 0 rfl rfl dX9_least_17 rfl ?_
    refine jg_0_4 (pc' := 21) hκ (mi inlX9) (fl_in hκ (mc wm_2_8)) dX9_least_18 rfl ?_
    refine jx_callVi (pc' := 24) hκ (c_Search_run (dg hκ) h) rfl rfl rfl (gV wm_22_15 wm_22_16 wm_22_17 wm_2_7 wm_22_18) hqV_X5_run ⟨Nat.le_of_ble_eq_true rfl, Nat.le_of_ble_eq_true rfl⟩ (wg_5 g _ _) rfl rfl rfl (Nat.le_of_ble_eq_true rfl) dX9_least_21 rfl (fun r6 X5 h => ?_)
    refine j_if_ne (tgt := 30) (pc' := 27) hκ dX9_least_24 (by decide) rfl (fun c => ?_) (fun c => ?_)
    · replace h := h.1 c
      refine j_aload_n (pc' := 31) hκ 0 rfl rfl dX9_least_30 rfl ?_
      refine jg_0_3 (pc' := 34) hκ (mi inlX9) (fl_in hκ (mc wm_2_4)) dX9_least_31 rfl ?_
      refine j_aload_n (pc' := 35) hκ 0 rfl rfl dX9_least_34 rfl ?_
      refine jg_0_4 (pc' := 38) hκ (mi inlX9) (fl_in hκ (mc wm_2_8)) dX9_least_35 rfl ?_
      refine jg_5_5 (pc' := 41) hκ (mi inlX5) (fl_ne hκ 15 rfl) dX9_least_38 rfl ?_
      refine j_aload_n (pc' := 42) hκ 0 rfl rfl dX9_least_41 rfl ?_
      refine jg_0_4 (pc' := 45) hκ (mi inlX9) (fl_in hκ (mc wm_2_8)) dX9_least_42 rfl ?_
      refine jg_5_8 (pc' := 48) hκ (mi inlX5) (fl_ne hκ 16 rfl) dX9_least_45 rfl ?_
      refine jx_callVv (pc' := 51) hκ (c_Told_copyFrom (dg hκ) (ah_32 g) h) rfl rfl rfl (gV wm_23_20 wm_23_21 wm_23_22 wm_2_3 wm_23_23) hqV_X6_copyFrom ⟨Nat.le_of_ble_eq_true rfl, Nat.le_of_ble_eq_true rfl⟩ (wg_4 g _ _) rfl rfl rfl (Nat.le_of_ble_eq_true rfl) dX9_least_48 rfl (fun X7 h => ?_)
      refine j_aload_n (pc' := 52) hκ 0 rfl rfl dX9_least_51 rfl ?_
      refine jg_0_4 (pc' := 55) hκ (mi inlX9) (fl_in hκ (mc wm_2_8)) dX9_least_52 rfl ?_
      refine jg_5_9 (pc' := 58) hκ (mi inlX5) (fl_ne hκ 17 rfl) dX9_least_55 rfl ?_
      exact hR _ _ _ _ dX9_least_58 h
    · replace h := h.2 c
      refine j_bipush (pc' := 29) (v := (-7)) hκ (by decide) dX9_least_27 rfl ?_
      exact hR _ _ _ _ dX9_least_29 h
  · replace h := h.2 c
    refine j_bipush (pc' := 9) (v := (-8)) hκ (by decide) dX9_least_7 rfl ?_
    exact hR _ _ _ _ dX9_least_9 h
theorem c_LR_least {g : Gx} (hg : Dg g) {X M : ST} {post : Int32 → ST → Prop} (h : wp_LR_least X post) (l : Launch) : Met l yX9_least wq_X9_least rm_LR_least (va_Pc [.ref (g.2.1 0)] (PU g X M)) (va_Qi post (fun Y t => va_P g.1 vwCl (ww g Y M) t.heap) (wA g)) 0 0 (wA g) :=
  met_xi hg (by decide) rfl [.ref (g.2.1 0)] rfl (Nat.le_of_ble_eq_true rfl) (fun κ hκ hR => lb_LR_least hκ hR h) l
theorem wm_5_2 : Cond.fieldLink RX6 19 "LampRound$ToldRound" "lamps" "LLampRound$Lamps;" ∈ wAll := inr_5 (List.mem_of_getElem? (i := 2) rfl)
theorem wm_25_19 : Cond.methodLink RX6 23 yX2_liveCount ∈ wAll := inr_25 (List.mem_of_getElem? (i := 19) rfl)
abbrev rm_Told_isWhole : Room := { frames := 2, cells := 0, slots := 0, locals := 40 }
def wp_Told_isWhole (X : ST) (post : Int32 → ST → Prop) : Prop :=
  ((x_Told_count X) < 3 → (post 0 X)) ∧ (¬ (x_Told_count X) < 3 → (wp_Lamps_liveCount X (fun r2 X1 => (¬ (x_Told_count X) = r2 → (post 0 X1)) ∧ ((x_Told_count X) = r2 → (post 1 X1)))))
set_option maxHeartbeats 4000000 in
set_option maxRecDepth 100000 in
theorem lb_Told_isWhole {κ : Cx} {g : Gx} {M : ST} (hκ : CF κ g RX6 cX6_isWhole wq_X6_isWhole 1 rm_Told_isWhole) {post : Int32 → ST → Prop} (hR : RtxZ κ g 1 cX6_isWhole M post) {X : ST} (h : wp_Told_isWhole X post) : Jw κ g 1 X M [(0, .ref (g.2.1 4))] 0 [] := by
  unfold wp_Told_isWhole at h
  refine j_aload_n (pc' := 1) hκ 0 rfl rfl dX6_isWhole_0 rfl ?_
  refine jg_4_2 (pc' := 4) hκ (mi inlX6) (fl_in hκ (mc wm_5_1)) dX6_isWhole_1 rfl ?_
  refine j_iconst (pc' := 5) (v := 3) hκ (by decide) dX6_isWhole_4 rfl ?_
  refine j_icmp_lt (tgt := 26) (pc' := 8) hκ dX6_isWhole_5 (by decide) rfl (fun c => ?_) (fun c => ?_)
  · replace h := h.1 c
    refine j_iconst (pc' := 27) (v := 0) hκ (by decide) dX6_isWhole_26 rfl ?_
    exact hR _ _ _ _ dX6_isWhole_27 (Or.inl rfl) h
  · replace h := h.2 c
    refine j_aload_n (pc' := 9) hκ 0 rfl rfl dX6_isWhole_8 rfl ?_
    refine jg_4_2 (pc' := 12) hκ (mi inlX6) (fl_in hκ (mc wm_5_1)) dX6_isWhole_9 rfl ?_
    refine j_aload_n (pc' := 13) hκ 0 rfl rfl dX6_isWhole_12 rfl ?_
    refine jg_4_0 (pc' := 16) hκ (mi inlX6) (fl_in hκ (mc wm_5_2)) dX6_isWhole_13 rfl ?_
    refine jx_callVi (pc' := 19) hκ (c_Lamps_liveCount (dg hκ) h) rfl rfl rfl (gV wm_25_19 wm_20_20 wm_20_21 wm_1_23 wm_20_22) hqV_X2_liveCount ⟨Nat.le_of_ble_eq_true rfl, Nat.le_of_ble_eq_true rfl⟩ (wg_3 g _ _) rfl rfl rfl (Nat.le_of_ble_eq_true rfl) dX6_isWhole_16 rfl (fun r2 X1 h => ?_)
    refine j_icmp_ne (tgt := 26) (pc' := 22) hκ dX6_isWhole_19 (by decide) rfl (fun c => ?_) (fun c => ?_)
    · replace h := h.1 c
      refine j_iconst (pc' := 27) (v := 0) hκ (by decide) dX6_isWhole_26 rfl ?_
      exact hR _ _ _ _ dX6_isWhole_27 (Or.inl rfl) h
    · replace h := h.2 c
      refine j_iconst (pc' := 23) (v := 1) hκ (by decide) dX6_isWhole_22 rfl ?_
      refine j_goto (pc' := 27) hκ (by decide) dX6_isWhole_23 ?_
      exact hR _ _ _ _ dX6_isWhole_27 (Or.inr rfl) h
theorem c_Told_isWhole {g : Gx} (hg : Dg g) {X M : ST} {post : Int32 → ST → Prop} (h : wp_Told_isWhole X post) (l : Launch) : Met l yX6_isWhole wq_X6_isWhole rm_Told_isWhole (va_Pc [.ref (g.2.1 4)] (PU g X M)) (va_Qi post (fun Y t => va_P g.1 vwCl (ww g Y M) t.heap) (wA g)) 0 0 (wA g) :=
  met_xz hg (by decide) rfl [.ref (g.2.1 4)] rfl (Nat.le_of_ble_eq_true rfl) (fun κ hκ hR => lb_Told_isWhole hκ hR h) l
theorem wm_25_15 : Cond.methodLink RX9 233 yX6_isWhole ∈ wAll := inr_25 (List.mem_of_getElem? (i := 15) rfl)
theorem wm_25_16 : Cond.instanceMethod yX6_isWhole ∈ wAll := inr_25 (List.mem_of_getElem? (i := 16) rfl)
theorem wm_25_17 : Cond.selects RX6 yX6_isWhole yX6_isWhole ∈ wAll := inr_25 (List.mem_of_getElem? (i := 17) rfl)
theorem wm_25_18 : Cond.code yX6_isWhole cX6_isWhole 1 (some .boolean) ∈ wAll := inr_25 (List.mem_of_getElem? (i := 18) rfl)
theorem hqV_X6_isWhole : yX6_isWhole.cls = RX6 ∧ yX6_isWhole.cls ≠ "java/lang/invoke/MethodHandle" ∧ yX6_isWhole.cls ≠ "java/lang/invoke/VarHandle" ∧ (parseMethodDescriptor yX6_isWhole.desc).map (fun d => d.parameters.length) = some 0 := by decide +kernel
abbrev rm_Told_after : Room := { frames := 0, cells := 0, slots := 0, locals := 0 }
def wp_Told_after (X : ST) (p1 : Int32) (post : Int32 → ST → Prop) : Prop :=
  ((x_Told_count X) ≤ (p1 + 1) → (post 0 X)) ∧ (¬ (x_Told_count X) ≤ (p1 + 1) → (post (p1 + 1) X))
set_option maxHeartbeats 4000000 in
set_option maxRecDepth 100000 in
theorem lb_Told_after {κ : Cx} {g : Gx} {M : ST} (hκ : CF κ g RX6 cX6_after wq_X6_after 2 rm_Told_after) {post : Int32 → ST → Prop} (hR : RtxI κ g 2 cX6_after M post) {X : ST} {p1 : Int32} (h : wp_Told_after X p1 post) : Jw κ g 2 X M [(0, .ref (g.2.1 4)), (1, .int p1)] 0 [] := by
  unfold wp_Told_after at h
  refine j_iload_n (pc' := 1) hκ 1 rfl rfl dX6_after_0 rfl ?_
  refine j_iconst (pc' := 2) (v := 1) hκ (by decide) dX6_after_1 rfl ?_
  refine j_iadd (pc' := 3) hκ dX6_after_2 rfl ?_
  refine j_aload_n (pc' := 4) hκ 0 rfl rfl dX6_after_3 rfl ?_
  refine jg_4_2 (pc' := 7) hκ (mi inlX6) (fl_in hκ (mc wm_5_1)) dX6_after_4 rfl ?_
  refine j_icmp_ge (tgt := 16) (pc' := 10) hκ dX6_after_7 (by decide) rfl (fun c => ?_) (fun c => ?_)
  · replace h := h.1 c
    refine j_iconst (pc' := 17) (v := 0) hκ (by decide) dX6_after_16 rfl ?_
    exact hR _ _ _ _ dX6_after_17 h
  · replace h := h.2 c
    refine j_iload_n (pc' := 11) hκ 1 rfl rfl dX6_after_10 rfl ?_
    refine j_iconst (pc' := 12) (v := 1) hκ (by decide) dX6_after_11 rfl ?_
    refine j_iadd (pc' := 13) hκ dX6_after_12 rfl ?_
    refine j_goto (pc' := 17) hκ (by decide) dX6_after_13 ?_
    exact hR _ _ _ _ dX6_after_17 h
theorem c_Told_after {g : Gx} (hg : Dg g) {X M : ST} {p1 : Int32} {post : Int32 → ST → Prop} (h : wp_Told_after X p1 post) (l : Launch) : Met l yX6_after wq_X6_after rm_Told_after (va_Pc [.ref (g.2.1 4), .int p1] (PU g X M)) (va_Qi post (fun Y t => va_P g.1 vwCl (ww g Y M) t.heap) (wA g)) 0 0 (wA g) :=
  met_xi hg (by decide) rfl [.ref (g.2.1 4), .int p1] rfl (Nat.le_of_ble_eq_true rfl) (fun κ hκ hR => lb_Told_after hκ hR h) l
theorem wm_26_0 : Cond.methodLink RX6 42 yX6_after ∈ wAll := inr_26 (List.mem_of_getElem? (i := 0) rfl)
theorem wm_26_1 : Cond.instanceMethod yX6_after ∈ wAll := inr_26 (List.mem_of_getElem? (i := 1) rfl)
theorem wm_26_2 : Cond.selects RX6 yX6_after yX6_after ∈ wAll := inr_26 (List.mem_of_getElem? (i := 2) rfl)
theorem wm_26_3 : Cond.code yX6_after cX6_after 2 (some .int) ∈ wAll := inr_26 (List.mem_of_getElem? (i := 3) rfl)
theorem hqV_X6_after : yX6_after.cls = RX6 ∧ yX6_after.cls ≠ "java/lang/invoke/MethodHandle" ∧ yX6_after.cls ≠ "java/lang/invoke/VarHandle" ∧ (parseMethodDescriptor yX6_after.desc).map (fun d => d.parameters.length) = some 1 := by decide +kernel
abbrev rm_Told_before : Room := { frames := 0, cells := 0, slots := 0, locals := 0 }
def wp_Told_before (X : ST) (p1 : Int32) (post : Int32 → ST → Prop) : Prop :=
  (p1 ≤ 0 → (post ((x_Told_count X) - 1) X)) ∧ (¬ p1 ≤ 0 → (post (p1 - 1) X))
set_option maxHeartbeats 4000000 in
set_option maxRecDepth 100000 in
theorem lb_Told_before {κ : Cx} {g : Gx} {M : ST} (hκ : CF κ g RX6 cX6_before wq_X6_before 2 rm_Told_before) {post : Int32 → ST → Prop} (hR : RtxI κ g 2 cX6_before M post) {X : ST} {p1 : Int32} (h : wp_Told_before X p1 post) : Jw κ g 2 X M [(0, .ref (g.2.1 4)), (1, .int p1)] 0 [] := by
  unfold wp_Told_before at h
  refine j_iload_n (pc' := 1) hκ 1 rfl rfl dX6_before_0 rfl ?_
  refine j_if_le (tgt := 10) (pc' := 4) hκ dX6_before_1 (by decide) rfl (fun c => ?_) (fun c => ?_)
  · replace h := h.1 c
    refine j_aload_n (pc' := 11) hκ 0 rfl rfl dX6_before_10 rfl ?_
    refine jg_4_2 (pc' := 14) hκ (mi inlX6) (fl_in hκ (mc wm_5_1)) dX6_before_11 rfl ?_
    refine j_iconst (pc' := 15) (v := 1) hκ (by decide) dX6_before_14 rfl ?_
    refine j_isub (pc' := 16) hκ dX6_before_15 rfl ?_
    exact hR _ _ _ _ dX6_before_16 h
  · replace h := h.2 c
    refine j_iload_n (pc' := 5) hκ 1 rfl rfl dX6_before_4 rfl ?_
    refine j_iconst (pc' := 6) (v := 1) hκ (by decide) dX6_before_5 rfl ?_
    refine j_isub (pc' := 7) hκ dX6_before_6 rfl ?_
    refine j_goto (pc' := 16) hκ (by decide) dX6_before_7 ?_
    exact hR _ _ _ _ dX6_before_16 h
theorem c_Told_before {g : Gx} (hg : Dg g) {X M : ST} {p1 : Int32} {post : Int32 → ST → Prop} (h : wp_Told_before X p1 post) (l : Launch) : Met l yX6_before wq_X6_before rm_Told_before (va_Pc [.ref (g.2.1 4), .int p1] (PU g X M)) (va_Qi post (fun Y t => va_P g.1 vwCl (ww g Y M) t.heap) (wA g)) 0 0 (wA g) :=
  met_xi hg (by decide) rfl [.ref (g.2.1 4), .int p1] rfl (Nat.le_of_ble_eq_true rfl) (fun κ hκ hR => lb_Told_before hκ hR h) l
theorem wm_26_4 : Cond.methodLink RX6 46 yX6_before ∈ wAll := inr_26 (List.mem_of_getElem? (i := 4) rfl)
theorem wm_26_5 : Cond.instanceMethod yX6_before ∈ wAll := inr_26 (List.mem_of_getElem? (i := 5) rfl)
theorem wm_26_6 : Cond.selects RX6 yX6_before yX6_before ∈ wAll := inr_26 (List.mem_of_getElem? (i := 6) rfl)
theorem wm_26_7 : Cond.code yX6_before cX6_before 2 (some .int) ∈ wAll := inr_26 (List.mem_of_getElem? (i := 7) rfl)
theorem hqV_X6_before : yX6_before.cls = RX6 ∧ yX6_before.cls ≠ "java/lang/invoke/MethodHandle" ∧ yX6_before.cls ≠ "java/lang/invoke/VarHandle" ∧ (parseMethodDescriptor yX6_before.desc).map (fun d => d.parameters.length) = some 1 := by decide +kernel
abbrev rm_Told_writeOut : Room := { frames := 1, cells := 0, slots := 0, locals := 21 }
def wp_Told_writeOut_4_s (k1 n1 : Nat) (K35 : ST → Int32 → Prop) (post : ST → Prop) (rec : ST → Int32 → Int32 → Prop) (X : ST) (l2 : Int32) (l3 : Int32) : Prop :=
  ((x_Told_count X) ≤ l3 → (K35 X l2)) ∧ (¬ (x_Told_count X) ≤ l3 → (vp_in l3 12 ∧ (vp_in l2 12 ∧ (((x_Told_order X l2.toNatClampNeg) ≤ (x_Told_order X l3.toNatClampNeg) → (rec X l2 (l3 + 1))) ∧ (¬ (x_Told_order X l2.toNatClampNeg) ≤ (x_Told_order X l3.toNatClampNeg) → (rec X l3 (l3 + 1)))))))
def wp_Told_writeOut_4 (k1 n1 : Nat) (K35 : ST → Int32 → Prop) (post : ST → Prop) : Nat → ST → Int32 → Int32 → Prop
  | 0 => fun _ _ _ => False
  | n + 1 => wp_Told_writeOut_4_s k1 n1 K35 post (wp_Told_writeOut_4 k1 n1 K35 post n)
set_option maxHeartbeats 4000000 in
set_option maxRecDepth 100000 in
theorem lb_Told_writeOut_4 {κ : Cx} {g : Gx} {M : ST} (hκ : CF κ g RX6 cX6_writeOut wq_X6_writeOut 6 rm_Told_writeOut) {post : ST → Prop} (hR : RtxV κ g 6 cX6_writeOut M post) {a1 q1 k1 n1 : Nat} (hh1 : ahI g q1 k1 n1 a1) {K35 : ST → Int32 → Prop} (hK35 : ∀ (X : ST) (l2 : Int32), K35 X l2 → Jw κ g 6 X M [(0, .ref (g.2.1 4)), (1, .ref a1), (2, .int l2)] 35 []) : ∀ (n : Nat) (X : ST) (l2 : Int32) (l3 : Int32), wp_Told_writeOut_4 k1 n1 K35 post n X l2 l3 → Jw κ g 6 X M [(0, .ref (g.2.1 4)), (1, .ref a1), (2, .int l2), (3, .int l3)] 4 [] := by
  intro n
  induction n with
  | zero =>
    intro X l2 l3  h
    exact h.elim
  | succ n ih =>
    intro X l2 l3  h
    have h : wp_Told_writeOut_4_s k1 n1 K35 post (wp_Told_writeOut_4 k1 n1 K35 post n) X l2 l3 := h
    unfold wp_Told_writeOut_4_s at h
    refine j_iload_n (pc' := 5) hκ 3 rfl rfl dX6_writeOut_4 rfl ?_
    refine j_aload_n (pc' := 6) hκ 0 rfl rfl dX6_writeOut_5 rfl ?_
    refine jg_4_2 (pc' := 9) hκ (mi inlX6) (fl_in hκ (mc wm_5_1)) dX6_writeOut_6 rfl ?_
    refine j_icmp_ge (tgt := 35) (pc' := 12) hκ dX6_writeOut_9 (by decide) rfl (fun c => ?_) (fun c => ?_)
    · replace h := h.1 c
      refine j_sub [0, 1, 2] rfl ?_
      exact hK35 _ _  h
    · replace h := h.2 c
      refine j_aload_n (pc' := 13) hκ 0 rfl rfl dX6_writeOut_12 rfl ?_
      refine jg_4_1 (pc' := 16) hκ (mi inlX6) (fl_in hκ (mc wm_5_0)) dX6_writeOut_13 rfl ?_
      refine j_iload_n (pc' := 17) hκ 3 rfl rfl dX6_writeOut_16 rfl ?_
      refine jx_iald (pc' := 18) hκ (ah_27 g) h.1 dX6_writeOut_17 rfl ?_
      replace h := h.2
      refine j_aload_n (pc' := 19) hκ 0 rfl rfl dX6_writeOut_18 rfl ?_
      refine jg_4_1 (pc' := 22) hκ (mi inlX6) (fl_in hκ (mc wm_5_0)) dX6_writeOut_19 rfl ?_
      refine j_iload_n (pc' := 23) hκ 2 rfl rfl dX6_writeOut_22 rfl ?_
      refine jx_iald (pc' := 24) hκ (ah_27 g) h.1 dX6_writeOut_23 rfl ?_
      replace h := h.2
      refine j_icmp_ge (tgt := 29) (pc' := 27) hκ dX6_writeOut_24 (by decide) rfl (fun c => ?_) (fun c => ?_)
      · replace h := h.1 c
        refine j_iinc (pc' := 32) (v := l3 + 1) (lv' := [(3, .int (l3 + 1)), (0, .ref (g.2.1 4)), (1, .ref a1), (2, .int l2)]) hκ 3 rfl rfl (Nat.le_of_ble_eq_true rfl) rfl dX6_writeOut_29 rfl ?_
        refine j_goto (pc' := 4) hκ (by decide) dX6_writeOut_32 ?_
        refine j_sub [1, 2, 3, 0] rfl ?_
        exact ih _ _ _  h
      · replace h := h.2 c
        refine j_iload_n (pc' := 28) hκ 3 rfl rfl dX6_writeOut_27 rfl ?_
        refine j_istore_n (pc' := 29) (lv' := [(2, .int l3), (0, .ref (g.2.1 4)), (1, .ref a1), (3, .int l3)]) hκ (Nat.le_of_ble_eq_true rfl) rfl rfl dX6_writeOut_28 rfl ?_
        refine j_iinc (pc' := 32) (v := l3 + 1) (lv' := [(3, .int (l3 + 1)), (2, .int l3), (0, .ref (g.2.1 4)), (1, .ref a1)]) hκ 3 rfl rfl (Nat.le_of_ble_eq_true rfl) rfl dX6_writeOut_29 rfl ?_
        refine j_goto (pc' := 4) hκ (by decide) dX6_writeOut_32 ?_
        refine j_sub [2, 3, 1, 0] rfl ?_
        exact ih _ _ _  h
def wp_Told_writeOut_70_s (k1 n1 : Nat) (K124 : ST → Prop) (post : ST → Prop) (rec : ST → Int32 → Int32 → Int32 → Prop) (X : ST) (l3 : Int32) (l4 : Int32) (l5 : Int32) : Prop :=
  ((x_Told_count X) ≤ l5 → (K124 X)) ∧ (¬ (x_Told_count X) ≤ l5 → (((Int32.ofNat n1) ≤ l5 → (K124 X)) ∧ (¬ (Int32.ofNat n1) ≤ l5 → (vp_in l4 12 ∧ (vp_in l5 n1 ∧ (∀ X7 : ST, X7 = ks_sA X k1 (upd (X.2.2.1 k1) l5.toNatClampNeg (x_Told_order X l4.toNatClampNeg)) → (l3 = 0 → (wp_Told_before X7 l4 (fun r9 X8 => rec X8 l3 r9 (l5 + 1)))) ∧ (¬ l3 = 0 → (wp_Told_after X7 l4 (fun r11 X10 => rec X10 l3 r11 (l5 + 1))))))))))
def wp_Told_writeOut_70 (k1 n1 : Nat) (K124 : ST → Prop) (post : ST → Prop) : Nat → ST → Int32 → Int32 → Int32 → Prop
  | 0 => fun _ _ _ _ => False
  | n + 1 => wp_Told_writeOut_70_s k1 n1 K124 post (wp_Told_writeOut_70 k1 n1 K124 post n)
set_option maxHeartbeats 4000000 in
set_option maxRecDepth 100000 in
theorem lb_Told_writeOut_70 {κ : Cx} {g : Gx} {M : ST} (hκ : CF κ g RX6 cX6_writeOut wq_X6_writeOut 6 rm_Told_writeOut) {post : ST → Prop} (hR : RtxV κ g 6 cX6_writeOut M post) {a1 q1 k1 n1 : Nat} (hh1 : ahI g q1 k1 n1 a1) {K124 : ST → Prop} (hK124 : ∀ (X : ST), K124 X → Jw κ g 6 X M [] 124 []) : ∀ (n : Nat) (X : ST) (l3 : Int32) (l4 : Int32) (l5 : Int32), wp_Told_writeOut_70 k1 n1 K124 post n X l3 l4 l5 → Jw κ g 6 X M [(0, .ref (g.2.1 4)), (1, .ref a1), (3, .int l3), (4, .int l4), (5, .int l5)] 70 [] := by
  intro n
  induction n with
  | zero =>
    intro X l3 l4 l5  h
    exact h.elim
  | succ n ih =>
    intro X l3 l4 l5  h
    have h : wp_Told_writeOut_70_s k1 n1 K124 post (wp_Told_writeOut_70 k1 n1 K124 post n) X l3 l4 l5 := h
    unfold wp_Told_writeOut_70_s at h
    refine j_iload (pc' := 72) hκ 4 rfl dX6_writeOut_70 rfl ?_
    refine j_aload_n (pc' := 73) hκ 0 rfl rfl dX6_writeOut_72 rfl ?_
    refine jg_4_2 (pc' := 76) hκ (mi inlX6) (fl_in hκ (mc wm_5_1)) dX6_writeOut_73 rfl ?_
    refine j_icmp_ge (tgt := 124) (pc' := 79) hκ dX6_writeOut_76 (by decide) rfl (fun c => ?_) (fun c => ?_)
    · replace h := h.1 c
      refine j_sub [] rfl ?_
      exact hK124 _  h
    · replace h := h.2 c
      refine j_iload (pc' := 81) hκ 4 rfl dX6_writeOut_79 rfl ?_
      refine j_aload_n (pc' := 82) hκ 1 rfl rfl dX6_writeOut_81 rfl ?_
      refine jx_alenI (pc' := 83) hκ hh1 dX6_writeOut_82 rfl ?_
      refine j_icmp_ge (tgt := 124) (pc' := 86) hκ dX6_writeOut_83 (by decide) rfl (fun c => ?_) (fun c => ?_)
      · replace h := h.1 c
        refine j_sub [] rfl ?_
        exact hK124 _  h
      · replace h := h.2 c
        refine j_aload_n (pc' := 87) hκ 1 rfl rfl dX6_writeOut_86 rfl ?_
        refine j_iload (pc' := 89) hκ 4 rfl dX6_writeOut_87 rfl ?_
        refine j_aload_n (pc' := 90) hκ 0 rfl rfl dX6_writeOut_89 rfl ?_
        refine jg_4_1 (pc' := 93) hκ (mi inlX6) (fl_in hκ (mc wm_5_0)) dX6_writeOut_90 rfl ?_
        refine j_iload (pc' := 95) hκ 3 rfl dX6_writeOut_93 rfl ?_
        refine jx_iald (pc' := 96) hκ (ah_27 g) h.1 dX6_writeOut_95 rfl ?_
        replace h := h.2
        refine jx_iast (pc' := 97) hκ hh1 h.1 dX6_writeOut_96 rfl ?_
        replace h := h.2
        refine j_nmX (fun X7 eX7 => ?_)
        replace h := h X7 eX7
        refine j_iload_n (pc' := 98) hκ 2 rfl rfl dX6_writeOut_97 rfl ?_
        refine j_if_eq (tgt := 110) (pc' := 101) hκ dX6_writeOut_98 (by decide) rfl (fun c => ?_) (fun c => ?_)
        · replace h := h.1 c
          refine j_aload_n (pc' := 111) hκ 0 rfl rfl dX6_writeOut_110 rfl ?_
          refine j_iload (pc' := 113) hκ 3 rfl dX6_writeOut_111 rfl ?_
          refine jx_callVi (pc' := 116) hκ (c_Told_before (dg hκ) h) rfl rfl rfl (gV wm_26_4 wm_26_5 wm_26_6 wm_2_3 wm_26_7) hqV_X6_before ⟨Nat.le_of_ble_eq_true rfl, Nat.le_of_ble_eq_true rfl⟩ (wg_4 g _ _) rfl rfl rfl (Nat.le_of_ble_eq_true rfl) dX6_writeOut_113 rfl (fun r9 X8 h => ?_)
          refine j_istore (pc' := 118) (lv' := [(4, .int r9), (0, .ref (g.2.1 4)), (1, .ref a1), (3, .int l3), (5, .int l5)]) hκ (Nat.le_of_ble_eq_true rfl) rfl dX6_writeOut_116 rfl ?_
          refine j_iinc (pc' := 121) (v := l5 + 1) (lv' := [(5, .int (l5 + 1)), (4, .int r9), (0, .ref (g.2.1 4)), (1, .ref a1), (3, .int l3)]) hκ 4 rfl rfl (Nat.le_of_ble_eq_true rfl) rfl dX6_writeOut_118 rfl ?_
          refine j_goto (pc' := 70) hκ (by decide) dX6_writeOut_121 ?_
          refine j_sub [2, 3, 4, 1, 0] rfl ?_
          exact ih _ _ _ _  h
        · replace h := h.2 c
          refine j_aload_n (pc' := 102) hκ 0 rfl rfl dX6_writeOut_101 rfl ?_
          refine j_iload (pc' := 104) hκ 3 rfl dX6_writeOut_102 rfl ?_
          refine jx_callVi (pc' := 107) hκ (c_Told_after (dg hκ) h) rfl rfl rfl (gV wm_26_0 wm_26_1 wm_26_2 wm_2_3 wm_26_3) hqV_X6_after ⟨Nat.le_of_ble_eq_true rfl, Nat.le_of_ble_eq_true rfl⟩ (wg_4 g _ _) rfl rfl rfl (Nat.le_of_ble_eq_true rfl) dX6_writeOut_104 rfl (fun r11 X10 h => ?_)
          refine j_goto (pc' := 116) hκ (by decide) dX6_writeOut_107 ?_
          refine j_istore (pc' := 118) (lv' := [(4, .int r11), (0, .ref (g.2.1 4)), (1, .ref a1), (3, .int l3), (5, .int l5)]) hκ (Nat.le_of_ble_eq_true rfl) rfl dX6_writeOut_116 rfl ?_
          refine j_iinc (pc' := 121) (v := l5 + 1) (lv' := [(5, .int (l5 + 1)), (4, .int r11), (0, .ref (g.2.1 4)), (1, .ref a1), (3, .int l3)]) hκ 4 rfl rfl (Nat.le_of_ble_eq_true rfl) rfl dX6_writeOut_118 rfl ?_
          refine j_goto (pc' := 70) hκ (by decide) dX6_writeOut_121 ?_
          refine j_sub [2, 3, 4, 1, 0] rfl ?_
          exact ih _ _ _ _  h
def wp_Told_writeOut (X : ST) (k1 n1 : Nat) (post : ST → Prop) : Prop :=
  ∃ n, wp_Told_writeOut_4 k1 n1 (fun X1 v2 => wp_Told_after X1 v2 (fun r4 X3 => vp_in r4 12 ∧ (wp_Told_before X3 v2 (fun r6 X5 => vp_in r6 12 ∧ (((x_Told_order X5 r6.toNatClampNeg) ≤ (x_Told_order X3 r4.toNatClampNeg) → (∃ n, wp_Told_writeOut_70 k1 n1 (fun X12 => post X12) post n X5 0 v2 0)) ∧ (¬ (x_Told_order X5 r6.toNatClampNeg) ≤ (x_Told_order X3 r4.toNatClampNeg) → (∃ n, wp_Told_writeOut_70 k1 n1 (fun X13 => post X13) post n X5 1 v2 0))))))) post n X 0 1
set_option maxHeartbeats 4000000 in
set_option maxRecDepth 100000 in
theorem lb_Told_writeOut {κ : Cx} {g : Gx} {M : ST} (hκ : CF κ g RX6 cX6_writeOut wq_X6_writeOut 6 rm_Told_writeOut) {post : ST → Prop} (hR : RtxV κ g 6 cX6_writeOut M post) {X : ST} {k1 n1 : Nat} {a1 q1 : Nat} (hh1 : ahI g q1 k1 n1 a1) (h : wp_Told_writeOut X k1 n1 post) : Jw κ g 6 X M [(0, .ref (g.2.1 4)), (1, .ref a1)] 0 [] := by
  unfold wp_Told_writeOut at h
  refine j_iconst (pc' := 1) (v := 0) hκ (by decide) dX6_writeOut_0 rfl ?_
  refine j_istore_n (pc' := 2) (lv' := [(2, .int 0), (0, .ref (g.2.1 4)), (1, .ref a1)]) hκ (Nat.le_of_ble_eq_true rfl) rfl rfl dX6_writeOut_1 rfl ?_
  refine j_iconst (pc' := 3) (v := 1) hκ (by decide) dX6_writeOut_2 rfl ?_
  refine j_istore_n (pc' := 4) (lv' := [(3, .int 1), (2, .int 0), (0, .ref (g.2.1 4)), (1, .ref a1)]) hκ (Nat.le_of_ble_eq_true rfl) rfl rfl dX6_writeOut_3 rfl ?_
  obtain ⟨n, h⟩ := h
  refine j_sub [2, 3, 1, 0] rfl ?_
  refine lb_Told_writeOut_4 hκ hR hh1 ?_ n _ _ _  h
  intro X1 v2  h
  refine j_aload_n (pc' := 36) hκ 0 rfl rfl dX6_writeOut_35 rfl ?_
  refine jg_4_1 (pc' := 39) hκ (mi inlX6) (fl_in hκ (mc wm_5_0)) dX6_writeOut_36 rfl ?_
  refine j_aload_n (pc' := 40) hκ 0 rfl rfl dX6_writeOut_39 rfl ?_
  refine j_iload_n (pc' := 41) hκ 2 rfl rfl dX6_writeOut_40 rfl ?_
  refine jx_callVi (pc' := 44) hκ (c_Told_after (dg hκ) h) rfl rfl rfl (gV wm_26_0 wm_26_1 wm_26_2 wm_2_3 wm_26_3) hqV_X6_after ⟨Nat.le_of_ble_eq_true rfl, Nat.le_of_ble_eq_true rfl⟩ (wg_4 g _ _) rfl rfl rfl (Nat.le_of_ble_eq_true rfl) dX6_writeOut_41 rfl (fun r4 X3 h => ?_)
  refine jx_iald (pc' := 45) hκ (ah_27 g) h.1 dX6_writeOut_44 rfl ?_
  replace h := h.2
  refine j_aload_n (pc' := 46) hκ 0 rfl rfl dX6_writeOut_45 rfl ?_
  refine jg_4_1 (pc' := 49) hκ (mi inlX6) (fl_in hκ (mc wm_5_0)) dX6_writeOut_46 rfl ?_
  refine j_aload_n (pc' := 50) hκ 0 rfl rfl dX6_writeOut_49 rfl ?_
  refine j_iload_n (pc' := 51) hκ 2 rfl rfl dX6_writeOut_50 rfl ?_
  refine jx_callVi (pc' := 54) hκ (c_Told_before (dg hκ) h) rfl rfl rfl (gV wm_26_4 wm_26_5 wm_26_6 wm_2_3 wm_26_7) hqV_X6_before ⟨Nat.le_of_ble_eq_true rfl, Nat.le_of_ble_eq_true rfl⟩ (wg_4 g _ _) rfl rfl rfl (Nat.le_of_ble_eq_true rfl) dX6_writeOut_51 rfl (fun r6 X5 h => ?_)
  refine jx_iald (pc' := 55) hκ (ah_27 g) h.1 dX6_writeOut_54 rfl ?_
  replace h := h.2
  refine j_icmp_ge (tgt := 62) (pc' := 58) hκ dX6_writeOut_55 (by decide) rfl (fun c => ?_) (fun c => ?_)
  · replace h := h.1 c
    refine j_iconst (pc' := 63) (v := 0) hκ (by decide) dX6_writeOut_62 rfl ?_
    refine j_istore_n (pc' := 64) (lv' := [(3, .int 0), (0, .ref (g.2.1 4)), (1, .ref a1), (2, .int v2)]) hκ (Nat.le_of_ble_eq_true rfl) rfl rfl dX6_writeOut_63 rfl ?_
    refine j_iload_n (pc' := 65) hκ 3 rfl rfl dX6_writeOut_64 rfl ?_
    refine j_istore (pc' := 67) (lv' := [(4, .int v2), (3, .int 0), (0, .ref (g.2.1 4)), (1, .ref a1), (2, .int v2)]) hκ (Nat.le_of_ble_eq_true rfl) rfl dX6_writeOut_65 rfl ?_
    refine j_iconst (pc' := 68) (v := 0) hκ (by decide) dX6_writeOut_67 rfl ?_
    refine j_istore (pc' := 70) (lv' := [(5, .int 0), (4, .int v2), (3, .int 0), (0, .ref (g.2.1 4)), (1, .ref a1), (2, .int v2)]) hκ (Nat.le_of_ble_eq_true rfl) rfl dX6_writeOut_68 rfl ?_
    obtain ⟨n, h⟩ := h
    refine j_sub [3, 4, 2, 1, 0] rfl ?_
    refine lb_Told_writeOut_70 hκ hR hh1 ?_ n _ _ _ _  h
    intro X12  h
    exact hR _ _ _ dX6_writeOut_124 h
  · replace h := h.2 c
    refine j_iconst (pc' := 59) (v := 1) hκ (by decide) dX6_writeOut_58 rfl ?_
    refine j_goto (pc' := 63) hκ (by decide) dX6_writeOut_59 ?_
    refine j_istore_n (pc' := 64) (lv' := [(3, .int 1), (0, .ref (g.2.1 4)), (1, .ref a1), (2, .int v2)]) hκ (Nat.le_of_ble_eq_true rfl) rfl rfl dX6_writeOut_63 rfl ?_
    refine j_iload_n (pc' := 65) hκ 3 rfl rfl dX6_writeOut_64 rfl ?_
    refine j_istore (pc' := 67) (lv' := [(4, .int v2), (3, .int 1), (0, .ref (g.2.1 4)), (1, .ref a1), (2, .int v2)]) hκ (Nat.le_of_ble_eq_true rfl) rfl dX6_writeOut_65 rfl ?_
    refine j_iconst (pc' := 68) (v := 0) hκ (by decide) dX6_writeOut_67 rfl ?_
    refine j_istore (pc' := 70) (lv' := [(5, .int 0), (4, .int v2), (3, .int 1), (0, .ref (g.2.1 4)), (1, .ref a1), (2, .int v2)]) hκ (Nat.le_of_ble_eq_true rfl) rfl dX6_writeOut_68 rfl ?_
    obtain ⟨n, h⟩ := h
    refine j_sub [3, 4, 2, 1, 0] rfl ?_
    refine lb_Told_writeOut_70 hκ hR hh1 ?_ n _ _ _ _  h
    intro X13  h
    exact hR _ _ _ dX6_writeOut_124 h
theorem c_Told_writeOut {g : Gx} (hg : Dg g) {X M : ST} {k1 n1 : Nat} {a1 q1 : Nat} (hh1 : ahI g q1 k1 n1 a1) {post : ST → Prop} (h : wp_Told_writeOut X k1 n1 post) (l : Launch) : Met l yX6_writeOut wq_X6_writeOut rm_Told_writeOut (va_Pc [.ref (g.2.1 4), .ref a1] (PU g X M)) (va_Qv post (fun Y t => va_P g.1 vwCl (ww g Y M) t.heap) (wA g)) 0 0 (wA g) :=
  met_xv hg (by decide) rfl [.ref (g.2.1 4), .ref a1] rfl (Nat.le_of_ble_eq_true rfl) (fun κ hκ hR => lb_Told_writeOut hκ hR hh1 h) l
theorem wm_25_20 : Cond.methodLink RX9 239 yX6_writeOut ∈ wAll := inr_25 (List.mem_of_getElem? (i := 20) rfl)
theorem wm_25_21 : Cond.instanceMethod yX6_writeOut ∈ wAll := inr_25 (List.mem_of_getElem? (i := 21) rfl)
theorem wm_25_22 : Cond.selects RX6 yX6_writeOut yX6_writeOut ∈ wAll := inr_25 (List.mem_of_getElem? (i := 22) rfl)
theorem wm_25_23 : Cond.code yX6_writeOut cX6_writeOut 6 none ∈ wAll := inr_25 (List.mem_of_getElem? (i := 23) rfl)
theorem hqV_X6_writeOut : yX6_writeOut.cls = RX6 ∧ yX6_writeOut.cls ≠ "java/lang/invoke/MethodHandle" ∧ yX6_writeOut.cls ≠ "java/lang/invoke/VarHandle" ∧ (parseMethodDescriptor yX6_writeOut.desc).map (fun d => d.parameters.length) = some 1 := by decide +kernel
abbrev rm_LR_second : Room := { frames := 20, cells := 0, slots := 0, locals := 529 }
def wp_LR_second (X : ST) (post : Int32 → ST → Prop) : Prop :=
  wp_Told_isWhole X (fun r2 X1 => (¬ r2 = 0 → (wp_LR_isLarge X1 (fun r4 X3 => (r4 = 0 → (wp_Search_begin X3 (fun X5 => wp_Told_writeOut X5 33 8 (fun X7 => ∀ X9 : ST, X9 = xs_Search_shuns X7 1 → wp_Search_run X9 (fun r11 X10 => (r11 = 0 → (post (-7) X10)) ∧ (¬ r11 = 0 → (post (x_Search_bestLength X10) X10))))))) ∧ (¬ r4 = 0 → (post (-8) X3))))) ∧ (r2 = 0 → (post (-4) X1)))
set_option maxHeartbeats 4000000 in
set_option maxRecDepth 100000 in
theorem lb_LR_second {κ : Cx} {g : Gx} {M : ST} (hκ : CF κ g RX9 cX9_second wq_X9_second 1 rm_LR_second) {post : Int32 → ST → Prop} (hR : RtxI κ g 1 cX9_second M post) {X : ST} (h : wp_LR_second X post) : Jw κ g 1 X M [(0, .ref (g.2.1 0))] 0 [] := by
  unfold wp_LR_second at h
  refine j_aload_n (pc' := 1) hκ 0 rfl rfl dX9_second_0 rfl ?_
  refine jg_0_3 (pc' := 4) hκ (mi inlX9) (fl_in hκ (mc wm_2_4)) dX9_second_1 rfl ?_
  refine jx_callVi (pc' := 7) hκ (c_Told_isWhole (dg hκ) h) rfl rfl rfl (gV wm_25_15 wm_25_16 wm_25_17 wm_2_3 wm_25_18) hqV_X6_isWhole ⟨Nat.le_of_ble_eq_true rfl, Nat.le_of_ble_eq_true rfl⟩ (wg_4 g _ _) rfl rfl rfl (Nat.le_of_ble_eq_true rfl) dX9_second_4 rfl (fun r2 X1 h => ?_)
  refine j_if_ne (tgt := 13) (pc' := 10) hκ dX9_second_7 (by decide) rfl (fun c => ?_) (fun c => ?_)
  · replace h := h.1 c
    refine j_aload_n (pc' := 14) hκ 0 rfl rfl dX9_second_13 rfl ?_
    refine jx_callVi (pc' := 17) hκ (c_LR_isLarge (dg hκ) h) rfl rfl rfl (gV wm_22_0 wm_22_1 wm_22_2 wm_1_2 wm_22_3) hqV_X9_isLarge ⟨Nat.le_of_ble_eq_true rfl, Nat.le_of_ble_eq_true rfl⟩ (wg_0 g _ _) rfl rfl rfl (Nat.le_of_ble_eq_true rfl) dX9_second_14 rfl (fun r4 X3 h => ?_)
    refine j_if_eq (tgt := 23) (pc' := 20) hκ dX9_second_17 (by decide) rfl (fun c => ?_) (fun c => ?_)
    · replace h := h.1 c
      refine j_aload_n (pc' := 24) hκ 0 rfl rfl dX9_second_23 rfl ?_
      refine jg_0_4 (pc' := 27) hκ (mi inlX9) (fl_in hκ (mc wm_2_8)) dX9_second_24 rfl ?_
      refine jx_callVv (pc' := 30) hκ (c_Search_begin (dg hκ) h) rfl rfl rfl (gV wm_22_4 wm_22_5 wm_22_6 wm_2_7 wm_22_7) hqV_X5_begin ⟨Nat.le_of_ble_eq_true rfl, Nat.le_of_ble_eq_true rfl⟩ (wg_5 g _ _) rfl rfl rfl (Nat.le_of_ble_eq_true rfl) dX9_second_27 rfl (fun X5 h => ?_)
      refine j_aload_n (pc' := 31) hκ 0 rfl rfl dX9_second_30 rfl ?_
      refine jg_0_3 (pc' := 34) hκ (mi inlX9) (fl_in hκ (mc wm_2_4)) dX9_second_31 rfl ?_
      refine j_aload_n (pc' := 35) hκ 0 rfl rfl dX9_second_34 rfl ?_
      refine jg_0_4 (pc' := 38) hκ (mi inlX9) (fl_in hκ (mc wm_2_8)) dX9_second_35 rfl ?_
      refine jg_5_6 (pc' := 41) hκ (mi inlX5) (fl_ne hκ 18 rfl) dX9_second_38 rfl ?_
      refine jx_callVv (pc' := 44) hκ (c_Told_writeOut (dg hκ) (ah_33 g) h) rfl rfl rfl (gV wm_25_20 wm_25_21 wm_25_22 wm_2_3 wm_25_23) hqV_X6_writeOut ⟨Nat.le_of_ble_eq_true rfl, Nat.le_of_ble_eq_true rfl⟩ (wg_4 g _ _) rfl rfl rfl (Nat.le_of_ble_eq_true rfl) dX9_second_41 rfl (fun X7 h => ?_)
      refine j_aload_n (pc' := 45) hκ 0 rfl rfl dX9_second_44 rfl ?_
      refine jg_0_4 (pc' := 48) hκ (mi inlX9) (fl_in hκ (mc wm_2_8)) dX9_second_45 rfl ?_
      refine j_iconst (pc' := 49) (v := 1) hκ (by decide) dX9_second_48 rfl ?_
      refine jp_5_7 (pc' := 52) hκ (mi inlX5) (fl_ne hκ 19 rfl) (Or.inr rfl) dX9_second_49 rfl ?_
      refine j_nmX (fun X9 eX9 => ?_)
      replace h := h X9 eX9
      refine j_aload_n (pc' := 53) hκ 0 rfl rfl dX9_second_52 rfl ?_
      refine jg_0_4 (pc' := 56) hκ (mi inlX9) (fl_in hκ (mc wm_2_8)) dX9_second_53 rfl ?_
      refine jx_callVi (pc' := 59) hκ (c_Search_run (dg hκ) h) rfl rfl rfl (gV wm_22_15 wm_22_16 wm_22_17 wm_2_7 wm_22_18) hqV_X5_run ⟨Nat.le_of_ble_eq_true rfl, Nat.le_of_ble_eq_true rfl⟩ (wg_5 g _ _) rfl rfl rfl (Nat.le_of_ble_eq_true rfl) dX9_second_56 rfl (fun r11 X10 h => ?_)
      refine j_if_eq (tgt := 72) (pc' := 62) hκ dX9_second_59 (by decide) rfl (fun c => ?_) (fun c => ?_)
      · replace h := h.1 c
        refine j_bipush (pc' := 74) (v := (-7)) hκ (by decide) dX9_second_72 rfl ?_
        exact hR _ _ _ _ dX9_second_74 h
      · replace h := h.2 c
        refine j_aload_n (pc' := 63) hκ 0 rfl rfl dX9_second_62 rfl ?_
        refine jg_0_4 (pc' := 66) hκ (mi inlX9) (fl_in hκ (mc wm_2_8)) dX9_second_63 rfl ?_
        refine jg_5_9 (pc' := 69) hκ (mi inlX5) (fl_ne hκ 17 rfl) dX9_second_66 rfl ?_
        refine j_goto (pc' := 74) hκ (by decide) dX9_second_69 ?_
        exact hR _ _ _ _ dX9_second_74 h
    · replace h := h.2 c
      refine j_bipush (pc' := 22) (v := (-8)) hκ (by decide) dX9_second_20 rfl ?_
      exact hR _ _ _ _ dX9_second_22 h
  · replace h := h.2 c
    refine j_bipush (pc' := 12) (v := (-4)) hκ (by decide) dX9_second_10 rfl ?_
    exact hR _ _ _ _ dX9_second_12 h
theorem c_LR_second {g : Gx} (hg : Dg g) {X M : ST} {post : Int32 → ST → Prop} (h : wp_LR_second X post) (l : Launch) : Met l yX9_second wq_X9_second rm_LR_second (va_Pc [.ref (g.2.1 0)] (PU g X M)) (va_Qi post (fun Y t => va_P g.1 vwCl (ww g Y M) t.heap) (wA g)) 0 0 (wA g) :=
  met_xi hg (by decide) rfl [.ref (g.2.1 0)] rfl (Nat.le_of_ble_eq_true rfl) (fun κ hκ hR => lb_LR_second hκ hR h) l
abbrev rm_Search_tie : Room := { frames := 0, cells := 0, slots := 0, locals := 0 }
def wp_Search_tie (X : ST) (k1 n1 : Nat) (p2 : Int32) (p3 : Int32) (post : ST → Prop) : Prop :=
  vp_in p2 n1 ∧ (vp_in p2 n1 ∧ (∀ X1 : ST, X1 = ks_sA X k1 (upd (X.2.2.1 k1) p2.toNatClampNeg ((X.2.2.1 k1 p2.toNatClampNeg) ||| ((1 : Int32) <<< (p3 &&& 31)))) → vp_in p3 n1 ∧ (vp_in p3 n1 ∧ (∀ X2 : ST, X2 = ks_sA X1 k1 (upd (X1.2.2.1 k1) p3.toNatClampNeg ((X1.2.2.1 k1 p3.toNatClampNeg) ||| ((1 : Int32) <<< (p2 &&& 31)))) → post X2))))
set_option maxHeartbeats 4000000 in
set_option maxRecDepth 100000 in
theorem lb_Search_tie {κ : Cx} {g : Gx} {M : ST} (hκ : CF κ g RX5 cX5_tie wq_X5_tie 4 rm_Search_tie) {post : ST → Prop} (hR : RtxV κ g 4 cX5_tie M post) {X : ST} {k1 n1 : Nat} {p2 : Int32} {p3 : Int32} {a1 q1 : Nat} (hh1 : ahI g q1 k1 n1 a1) (h : wp_Search_tie X k1 n1 p2 p3 post) : Jw κ g 4 X M [(0, .ref (g.2.1 5)), (1, .ref a1), (2, .int p2), (3, .int p3)] 0 [] := by
  unfold wp_Search_tie at h
  refine j_aload_n (pc' := 1) hκ 1 rfl rfl dX5_tie_0 rfl ?_
  refine j_iload_n (pc' := 2) hκ 2 rfl rfl dX5_tie_1 rfl ?_
  refine j_dup2 (pc' := 3) hκ rfl rfl dX5_tie_2 rfl ?_
  refine jx_iald (pc' := 4) hκ hh1 h.1 dX5_tie_3 rfl ?_
  replace h := h.2
  refine j_iconst (pc' := 5) (v := 1) hκ (by decide) dX5_tie_4 rfl ?_
  refine j_iload_n (pc' := 6) hκ 3 rfl rfl dX5_tie_5 rfl ?_
  refine j_ishl (pc' := 7) hκ dX5_tie_6 rfl ?_
  refine j_ior (pc' := 8) hκ dX5_tie_7 rfl ?_
  refine jx_iast (pc' := 9) hκ hh1 h.1 dX5_tie_8 rfl ?_
  replace h := h.2
  refine j_nmX (fun X1 eX1 => ?_)
  replace h := h X1 eX1
  refine j_aload_n (pc' := 10) hκ 1 rfl rfl dX5_tie_9 rfl ?_
  refine j_iload_n (pc' := 11) hκ 3 rfl rfl dX5_tie_10 rfl ?_
  refine j_dup2 (pc' := 12) hκ rfl rfl dX5_tie_11 rfl ?_
  refine jx_iald (pc' := 13) hκ hh1 h.1 dX5_tie_12 rfl ?_
  replace h := h.2
  refine j_iconst (pc' := 14) (v := 1) hκ (by decide) dX5_tie_13 rfl ?_
  refine j_iload_n (pc' := 15) hκ 2 rfl rfl dX5_tie_14 rfl ?_
  refine j_ishl (pc' := 16) hκ dX5_tie_15 rfl ?_
  refine j_ior (pc' := 17) hκ dX5_tie_16 rfl ?_
  refine jx_iast (pc' := 18) hκ hh1 h.1 dX5_tie_17 rfl ?_
  replace h := h.2
  refine j_nmX (fun X2 eX2 => ?_)
  replace h := h X2 eX2
  exact hR _ _ _ dX5_tie_18 h
theorem c_Search_tie {g : Gx} (hg : Dg g) {X M : ST} {k1 n1 : Nat} {p2 : Int32} {p3 : Int32} {a1 q1 : Nat} (hh1 : ahI g q1 k1 n1 a1) {post : ST → Prop} (h : wp_Search_tie X k1 n1 p2 p3 post) (l : Launch) : Met l yX5_tie wq_X5_tie rm_Search_tie (va_Pc [.ref (g.2.1 5), .ref a1, .int p2, .int p3] (PU g X M)) (va_Qv post (fun Y t => va_P g.1 vwCl (ww g Y M) t.heap) (wA g)) 0 0 (wA g) :=
  met_xv hg (by decide) rfl [.ref (g.2.1 5), .ref a1, .int p2, .int p3] rfl (Nat.le_of_ble_eq_true rfl) (fun κ hκ hR => lb_Search_tie hκ hR hh1 h) l
theorem wm_27_0 : Cond.methodLink RX9 253 yX5_tie ∈ wAll := inr_27 (List.mem_of_getElem? (i := 0) rfl)
theorem wm_27_1 : Cond.instanceMethod yX5_tie ∈ wAll := inr_27 (List.mem_of_getElem? (i := 1) rfl)
theorem wm_27_2 : Cond.selects RX5 yX5_tie yX5_tie ∈ wAll := inr_27 (List.mem_of_getElem? (i := 2) rfl)
theorem wm_27_3 : Cond.code yX5_tie cX5_tie 4 none ∈ wAll := inr_27 (List.mem_of_getElem? (i := 3) rfl)
theorem hqV_X5_tie : yX5_tie.cls = RX5 ∧ yX5_tie.cls ≠ "java/lang/invoke/MethodHandle" ∧ yX5_tie.cls ≠ "java/lang/invoke/VarHandle" ∧ (parseMethodDescriptor yX5_tie.desc).map (fun d => d.parameters.length) = some 3 := by decide +kernel
abbrev rm_LR_with : Room := { frames := 20, cells := 0, slots := 0, locals := 529 }
def wp_LR_with (X : ST) (p1 : Int32) (p2 : Int32) (p3 : Int32) (post : Int32 → ST → Prop) : Prop :=
  wp_Lamps_isLive X p1 (fun r2 X1 => (r2 = 0 → (post (-1) X1)) ∧ (¬ r2 = 0 → (wp_Lamps_isLive X1 p2 (fun r4 X3 => (r4 = 0 → (post (-1) X3)) ∧ (¬ r4 = 0 → ((¬ p1 = p2 → (wp_LR_isLarge X3 (fun r6 X5 => (r6 = 0 → (wp_Search_begin X5 (fun X7 => (p3 = 0 → (wp_Search_tie X7 29 12 p1 p2 (fun X9 => wp_Search_run X9 (fun r12 X11 => (r12 = 0 → (post (-7) X11)) ∧ (¬ r12 = 0 → (post (x_Search_bestLength X11) X11)))))) ∧ (¬ p3 = 0 → (wp_Search_tie X7 28 12 p1 p2 (fun X13 => wp_Search_run X13 (fun r16 X15 => (r16 = 0 → (post (-7) X15)) ∧ (¬ r16 = 0 → (post (x_Search_bestLength X15) X15))))))))) ∧ (¬ r6 = 0 → (post (-8) X5))))) ∧ (p1 = p2 → (post (-1) X3))))))))
set_option maxHeartbeats 4000000 in
set_option maxRecDepth 100000 in
theorem lb_LR_with {κ : Cx} {g : Gx} {M : ST} (hκ : CF κ g RX9 cX9_with wq_X9_with 4 rm_LR_with) {post : Int32 → ST → Prop} (hR : RtxI κ g 4 cX9_with M post) {X : ST} {p1 : Int32} {p2 : Int32} {p3 : Int32} (h : wp_LR_with X p1 p2 p3 post) : Jw κ g 4 X M [(0, .ref (g.2.1 0)), (1, .int p1), (2, .int p2), (3, .int p3)] 0 [] := by
  unfold wp_LR_with at h
  refine j_aload_n (pc' := 1) hκ 0 rfl rfl dX9_with_0 rfl ?_
  refine jg_0_2 (pc' := 4) hκ (mi inlX9) (fl_in hκ (mc wm_2_0)) dX9_with_1 rfl ?_
  refine j_iload_n (pc' := 5) hκ 1 rfl rfl dX9_with_4 rfl ?_
  refine jx_callVi (pc' := 8) hκ (c_Lamps_isLive (dg hκ) h) rfl rfl rfl (gV wm_17_22 wm_17_23 wm_18_0 wm_1_23 wm_18_1) hqV_X2_isLive ⟨Nat.le_of_ble_eq_true rfl, Nat.le_of_ble_eq_true rfl⟩ (wg_3 g _ _) rfl rfl rfl (Nat.le_of_ble_eq_true rfl) dX9_with_5 rfl (fun r2 X1 h => ?_)
  refine j_if_eq (tgt := 27) (pc' := 11) hκ dX9_with_8 (by decide) rfl (fun c => ?_) (fun c => ?_)
  · replace h := h.1 c
    refine j_iconst (pc' := 28) (v := (-1)) hκ (by decide) dX9_with_27 rfl ?_
    exact hR _ _ _ _ dX9_with_28 h
  · replace h := h.2 c
    refine j_aload_n (pc' := 12) hκ 0 rfl rfl dX9_with_11 rfl ?_
    refine jg_0_2 (pc' := 15) hκ (mi inlX9) (fl_in hκ (mc wm_2_0)) dX9_with_12 rfl ?_
    refine j_iload_n (pc' := 16) hκ 2 rfl rfl dX9_with_15 rfl ?_
    refine jx_callVi (pc' := 19) hκ (c_Lamps_isLive (dg hκ) h) rfl rfl rfl (gV wm_17_22 wm_17_23 wm_18_0 wm_1_23 wm_18_1) hqV_X2_isLive ⟨Nat.le_of_ble_eq_true rfl, Nat.le_of_ble_eq_true rfl⟩ (wg_3 g _ _) rfl rfl rfl (Nat.le_of_ble_eq_true rfl) dX9_with_16 rfl (fun r4 X3 h => ?_)
    refine j_if_eq (tgt := 27) (pc' := 22) hκ dX9_with_19 (by decide) rfl (fun c => ?_) (fun c => ?_)
    · replace h := h.1 c
      refine j_iconst (pc' := 28) (v := (-1)) hκ (by decide) dX9_with_27 rfl ?_
      exact hR _ _ _ _ dX9_with_28 h
    · replace h := h.2 c
      refine j_iload_n (pc' := 23) hκ 1 rfl rfl dX9_with_22 rfl ?_
      refine j_iload_n (pc' := 24) hκ 2 rfl rfl dX9_with_23 rfl ?_
      refine j_icmp_ne (tgt := 29) (pc' := 27) hκ dX9_with_24 (by decide) rfl (fun c => ?_) (fun c => ?_)
      · replace h := h.1 c
        refine j_aload_n (pc' := 30) hκ 0 rfl rfl dX9_with_29 rfl ?_
        refine jx_callVi (pc' := 33) hκ (c_LR_isLarge (dg hκ) h) rfl rfl rfl (gV wm_22_0 wm_22_1 wm_22_2 wm_1_2 wm_22_3) hqV_X9_isLarge ⟨Nat.le_of_ble_eq_true rfl, Nat.le_of_ble_eq_true rfl⟩ (wg_0 g _ _) rfl rfl rfl (Nat.le_of_ble_eq_true rfl) dX9_with_30 rfl (fun r6 X5 h => ?_)
        refine j_if_eq (tgt := 39) (pc' := 36) hκ dX9_with_33 (by decide) rfl (fun c => ?_) (fun c => ?_)
        · replace h := h.1 c
          refine j_aload_n (pc' := 40) hκ 0 rfl rfl dX9_with_39 rfl ?_
          refine jg_0_4 (pc' := 43) hκ (mi inlX9) (fl_in hκ (mc wm_2_8)) dX9_with_40 rfl ?_
          refine jx_callVv (pc' := 46) hκ (c_Search_begin (dg hκ) h) rfl rfl rfl (gV wm_22_4 wm_22_5 wm_22_6 wm_2_7 wm_22_7) hqV_X5_begin ⟨Nat.le_of_ble_eq_true rfl, Nat.le_of_ble_eq_true rfl⟩ (wg_5 g _ _) rfl rfl rfl (Nat.le_of_ble_eq_true rfl) dX9_with_43 rfl (fun X7 h => ?_)
          refine j_aload_n (pc' := 47) hκ 0 rfl rfl dX9_with_46 rfl ?_
          refine jg_0_4 (pc' := 50) hκ (mi inlX9) (fl_in hκ (mc wm_2_8)) dX9_with_47 rfl ?_
          refine j_iload_n (pc' := 51) hκ 3 rfl rfl dX9_with_50 rfl ?_
          refine j_if_eq (tgt := 64) (pc' := 54) hκ dX9_with_51 (by decide) rfl (fun c => ?_) (fun c => ?_)
          · replace h := h.1 c
            refine j_aload_n (pc' := 65) hκ 0 rfl rfl dX9_with_64 rfl ?_
            refine jg_0_4 (pc' := 68) hκ (mi inlX9) (fl_in hκ (mc wm_2_8)) dX9_with_65 rfl ?_
            refine jg_5_2 (pc' := 71) hκ (mi inlX5) (fl_ne hκ 21 rfl) dX9_with_68 rfl ?_
            refine j_iload_n (pc' := 72) hκ 1 rfl rfl dX9_with_71 rfl ?_
            refine j_iload_n (pc' := 73) hκ 2 rfl rfl dX9_with_72 rfl ?_
            refine jx_callVv (pc' := 76) hκ (c_Search_tie (dg hκ) (ah_29 g) h) rfl rfl rfl (gV wm_27_0 wm_27_1 wm_27_2 wm_2_7 wm_27_3) hqV_X5_tie ⟨Nat.le_of_ble_eq_true rfl, Nat.le_of_ble_eq_true rfl⟩ (wg_5 g _ _) rfl rfl rfl (Nat.le_of_ble_eq_true rfl) dX9_with_73 rfl (fun X9 h => ?_)
            refine j_aload_n (pc' := 77) hκ 0 rfl rfl dX9_with_76 rfl ?_
            refine jg_0_4 (pc' := 80) hκ (mi inlX9) (fl_in hκ (mc wm_2_8)) dX9_with_77 rfl ?_
            refine jx_callVi (pc' := 83) hκ (c_Search_run (dg hκ) h) rfl rfl rfl (gV wm_22_15 wm_22_16 wm_22_17 wm_2_7 wm_22_18) hqV_X5_run ⟨Nat.le_of_ble_eq_true rfl, Nat.le_of_ble_eq_true rfl⟩ (wg_5 g _ _) rfl rfl rfl (Nat.le_of_ble_eq_true rfl) dX9_with_80 rfl (fun r12 X11 h => ?_)
            refine j_if_eq (tgt := 96) (pc' := 86) hκ dX9_with_83 (by decide) rfl (fun c => ?_) (fun c => ?_)
            · replace h := h.1 c
              refine j_bipush (pc' := 98) (v := (-7)) hκ (by decide) dX9_with_96 rfl ?_
              exact hR _ _ _ _ dX9_with_98 h
            · replace h := h.2 c
              refine j_aload_n (pc' := 87) hκ 0 rfl rfl dX9_with_86 rfl ?_
              refine jg_0_4 (pc' := 90) hκ (mi inlX9) (fl_in hκ (mc wm_2_8)) dX9_with_87 rfl ?_
              refine jg_5_9 (pc' := 93) hκ (mi inlX5) (fl_ne hκ 17 rfl) dX9_with_90 rfl ?_
              refine j_goto (pc' := 98) hκ (by decide) dX9_with_93 ?_
              exact hR _ _ _ _ dX9_with_98 h
          · replace h := h.2 c
            refine j_aload_n (pc' := 55) hκ 0 rfl rfl dX9_with_54 rfl ?_
            refine jg_0_4 (pc' := 58) hκ (mi inlX9) (fl_in hκ (mc wm_2_8)) dX9_with_55 rfl ?_
            refine jg_5_1 (pc' := 61) hκ (mi inlX5) (fl_ne hκ 20 rfl) dX9_with_58 rfl ?_
            refine j_goto (pc' := 71) hκ (by decide) dX9_with_61 ?_
            refine j_iload_n (pc' := 72) hκ 1 rfl rfl dX9_with_71 rfl ?_
            refine j_iload_n (pc' := 73) hκ 2 rfl rfl dX9_with_72 rfl ?_
            refine jx_callVv (pc' := 76) hκ (c_Search_tie (dg hκ) (ah_28 g) h) rfl rfl rfl (gV wm_27_0 wm_27_1 wm_27_2 wm_2_7 wm_27_3) hqV_X5_tie ⟨Nat.le_of_ble_eq_true rfl, Nat.le_of_ble_eq_true rfl⟩ (wg_5 g _ _) rfl rfl rfl (Nat.le_of_ble_eq_true rfl) dX9_with_73 rfl (fun X13 h => ?_)
            refine j_aload_n (pc' := 77) hκ 0 rfl rfl dX9_with_76 rfl ?_
            refine jg_0_4 (pc' := 80) hκ (mi inlX9) (fl_in hκ (mc wm_2_8)) dX9_with_77 rfl ?_
            refine jx_callVi (pc' := 83) hκ (c_Search_run (dg hκ) h) rfl rfl rfl (gV wm_22_15 wm_22_16 wm_22_17 wm_2_7 wm_22_18) hqV_X5_run ⟨Nat.le_of_ble_eq_true rfl, Nat.le_of_ble_eq_true rfl⟩ (wg_5 g _ _) rfl rfl rfl (Nat.le_of_ble_eq_true rfl) dX9_with_80 rfl (fun r16 X15 h => ?_)
            refine j_if_eq (tgt := 96) (pc' := 86) hκ dX9_with_83 (by decide) rfl (fun c => ?_) (fun c => ?_)
            · replace h := h.1 c
              refine j_bipush (pc' := 98) (v := (-7)) hκ (by decide) dX9_with_96 rfl ?_
              exact hR _ _ _ _ dX9_with_98 h
            · replace h := h.2 c
              refine j_aload_n (pc' := 87) hκ 0 rfl rfl dX9_with_86 rfl ?_
              refine jg_0_4 (pc' := 90) hκ (mi inlX9) (fl_in hκ (mc wm_2_8)) dX9_with_87 rfl ?_
              refine jg_5_9 (pc' := 93) hκ (mi inlX5) (fl_ne hκ 17 rfl) dX9_with_90 rfl ?_
              refine j_goto (pc' := 98) hκ (by decide) dX9_with_93 ?_
              exact hR _ _ _ _ dX9_with_98 h
        · replace h := h.2 c
          refine j_bipush (pc' := 38) (v := (-8)) hκ (by decide) dX9_with_36 rfl ?_
          exact hR _ _ _ _ dX9_with_38 h
      · replace h := h.2 c
        refine j_iconst (pc' := 28) (v := (-1)) hκ (by decide) dX9_with_27 rfl ?_
        exact hR _ _ _ _ dX9_with_28 h
theorem c_LR_with {g : Gx} (hg : Dg g) {X M : ST} {p1 : Int32} {p2 : Int32} {p3 : Int32} {post : Int32 → ST → Prop} (h : wp_LR_with X p1 p2 p3 post) (l : Launch) : Met l yX9_with wq_X9_with rm_LR_with (va_Pc [.ref (g.2.1 0), .int p1, .int p2, .int p3] (PU g X M)) (va_Qi post (fun Y t => va_P g.1 vwCl (ww g Y M) t.heap) (wA g)) 0 0 (wA g) :=
  met_xi hg (by decide) rfl [.ref (g.2.1 0), .int p1, .int p2, .int p3] rfl (Nat.le_of_ble_eq_true rfl) (fun κ hκ hR => lb_LR_with hκ hR h) l
abbrev rm_Told_holds : Room := { frames := 0, cells := 0, slots := 0, locals := 0 }
def wp_Told_holds_2_s (K20 : ST → Prop) (K28 : ST → Prop) (post : Int32 → ST → Prop) (rec : ST → Int32 → Int32 → Prop) (X : ST) (l1 : Int32) (l2 : Int32) : Prop :=
  ((x_Told_count X) ≤ l2 → (K28 X)) ∧ (¬ (x_Told_count X) ≤ l2 → (vp_in l2 12 ∧ ((¬ (x_Told_order X l2.toNatClampNeg) = l1 → (rec X l1 (l2 + 1))) ∧ ((x_Told_order X l2.toNatClampNeg) = l1 → (K20 X)))))
def wp_Told_holds_2 (K20 : ST → Prop) (K28 : ST → Prop) (post : Int32 → ST → Prop) : Nat → ST → Int32 → Int32 → Prop
  | 0 => fun _ _ _ => False
  | n + 1 => wp_Told_holds_2_s K20 K28 post (wp_Told_holds_2 K20 K28 post n)
set_option maxHeartbeats 4000000 in
set_option maxRecDepth 100000 in
theorem lb_Told_holds_2 {κ : Cx} {g : Gx} {M : ST} (hκ : CF κ g RX6 cX6_holds wq_X6_holds 3 rm_Told_holds) {post : Int32 → ST → Prop} (hR : RtxZ κ g 3 cX6_holds M post) {K20 : ST → Prop} {K28 : ST → Prop} (hK20 : ∀ (X : ST), K20 X → Jw κ g 3 X M [] 20 []) (hK28 : ∀ (X : ST), K28 X → Jw κ g 3 X M [] 28 []) : ∀ (n : Nat) (X : ST) (l1 : Int32) (l2 : Int32), wp_Told_holds_2 K20 K28 post n X l1 l2 → Jw κ g 3 X M [(0, .ref (g.2.1 4)), (1, .int l1), (2, .int l2)] 2 [] := by
  intro n
  induction n with
  | zero =>
    intro X l1 l2  h
    exact h.elim
  | succ n ih =>
    intro X l1 l2  h
    have h : wp_Told_holds_2_s K20 K28 post (wp_Told_holds_2 K20 K28 post n) X l1 l2 := h
    unfold wp_Told_holds_2_s at h
    refine j_iload_n (pc' := 3) hκ 2 rfl rfl dX6_holds_2 rfl ?_
    refine j_aload_n (pc' := 4) hκ 0 rfl rfl dX6_holds_3 rfl ?_
    refine jg_4_2 (pc' := 7) hκ (mi inlX6) (fl_in hκ (mc wm_5_1)) dX6_holds_4 rfl ?_
    refine j_icmp_ge (tgt := 28) (pc' := 10) hκ dX6_holds_7 (by decide) rfl (fun c => ?_) (fun c => ?_)
    · replace h := h.1 c
      refine j_sub [] rfl ?_
      exact hK28 _  h
    · replace h := h.2 c
      refine j_aload_n (pc' := 11) hκ 0 rfl rfl dX6_holds_10 rfl ?_
      refine jg_4_1 (pc' := 14) hκ (mi inlX6) (fl_in hκ (mc wm_5_0)) dX6_holds_11 rfl ?_
      refine j_iload_n (pc' := 15) hκ 2 rfl rfl dX6_holds_14 rfl ?_
      refine jx_iald (pc' := 16) hκ (ah_27 g) h.1 dX6_holds_15 rfl ?_
      replace h := h.2
      refine j_iload_n (pc' := 17) hκ 1 rfl rfl dX6_holds_16 rfl ?_
      refine j_icmp_ne (tgt := 22) (pc' := 20) hκ dX6_holds_17 (by decide) rfl (fun c => ?_) (fun c => ?_)
      · replace h := h.1 c
        refine j_iinc (pc' := 25) (v := l2 + 1) (lv' := [(2, .int (l2 + 1)), (0, .ref (g.2.1 4)), (1, .int l1)]) hκ 2 rfl rfl (Nat.le_of_ble_eq_true rfl) rfl dX6_holds_22 rfl ?_
        refine j_goto (pc' := 2) hκ (by decide) dX6_holds_25 ?_
        refine j_sub [1, 2, 0] rfl ?_
        exact ih _ _ _  h
      · replace h := h.2 c
        refine j_sub [] rfl ?_
        exact hK20 _  h
def wp_Told_holds (X : ST) (p1 : Int32) (post : Int32 → ST → Prop) : Prop :=
  ∃ n, wp_Told_holds_2 (fun X1 => post 1 X1) (fun X2 => post 0 X2) post n X p1 0
set_option maxHeartbeats 4000000 in
set_option maxRecDepth 100000 in
theorem lb_Told_holds {κ : Cx} {g : Gx} {M : ST} (hκ : CF κ g RX6 cX6_holds wq_X6_holds 3 rm_Told_holds) {post : Int32 → ST → Prop} (hR : RtxZ κ g 3 cX6_holds M post) {X : ST} {p1 : Int32} (h : wp_Told_holds X p1 post) : Jw κ g 3 X M [(0, .ref (g.2.1 4)), (1, .int p1)] 0 [] := by
  unfold wp_Told_holds at h
  refine j_iconst (pc' := 1) (v := 0) hκ (by decide) dX6_holds_0 rfl ?_
  refine j_istore_n (pc' := 2) (lv' := [(2, .int 0), (0, .ref (g.2.1 4)), (1, .int p1)]) hκ (Nat.le_of_ble_eq_true rfl) rfl rfl dX6_holds_1 rfl ?_
  obtain ⟨n, h⟩ := h
  refine j_sub [1, 2, 0] rfl ?_
  refine lb_Told_holds_2 hκ hR ?_ ?_ n _ _ _  h
  · intro X1  h
    refine j_iconst (pc' := 21) (v := 1) hκ (by decide) dX6_holds_20 rfl ?_
    exact hR _ _ _ _ dX6_holds_21 (Or.inr rfl) h
  · intro X2  h
    refine j_iconst (pc' := 29) (v := 0) hκ (by decide) dX6_holds_28 rfl ?_
    exact hR _ _ _ _ dX6_holds_29 (Or.inl rfl) h
theorem c_Told_holds {g : Gx} (hg : Dg g) {X M : ST} {p1 : Int32} {post : Int32 → ST → Prop} (h : wp_Told_holds X p1 post) (l : Launch) : Met l yX6_holds wq_X6_holds rm_Told_holds (va_Pc [.ref (g.2.1 4), .int p1] (PU g X M)) (va_Qi post (fun Y t => va_P g.1 vwCl (ww g Y M) t.heap) (wA g)) 0 0 (wA g) :=
  met_xz hg (by decide) rfl [.ref (g.2.1 4), .int p1] rfl (Nat.le_of_ble_eq_true rfl) (fun κ hκ hR => lb_Told_holds hκ hR h) l
theorem wm_27_16 : Cond.methodLink RX9 257 yX6_holds ∈ wAll := inr_27 (List.mem_of_getElem? (i := 16) rfl)
theorem wm_27_17 : Cond.instanceMethod yX6_holds ∈ wAll := inr_27 (List.mem_of_getElem? (i := 17) rfl)
theorem wm_27_18 : Cond.selects RX6 yX6_holds yX6_holds ∈ wAll := inr_27 (List.mem_of_getElem? (i := 18) rfl)
theorem wm_27_19 : Cond.code yX6_holds cX6_holds 3 (some .boolean) ∈ wAll := inr_27 (List.mem_of_getElem? (i := 19) rfl)
theorem hqV_X6_holds : yX6_holds.cls = RX6 ∧ yX6_holds.cls ≠ "java/lang/invoke/MethodHandle" ∧ yX6_holds.cls ≠ "java/lang/invoke/VarHandle" ∧ (parseMethodDescriptor yX6_holds.desc).map (fun d => d.parameters.length) = some 1 := by decide +kernel
abbrev rm_Told_append : Room := { frames := 0, cells := 0, slots := 0, locals := 0 }
def wp_Told_append (X : ST) (p1 : Int32) (post : Int32 → ST → Prop) : Prop :=
  (12 ≤ (x_Told_count X) → (post (x_Told_count X) X)) ∧ (¬ 12 ≤ (x_Told_count X) → (vp_in (x_Told_count X) 12 ∧ (∀ X1 : ST, X1 = xs_Told_order X (upd (x_Told_order X) (x_Told_count X).toNatClampNeg p1) → ∀ X2 : ST, X2 = xs_Told_count X1 ((x_Told_count X1) + 1) → post (x_Told_count X2) X2)))
set_option maxHeartbeats 4000000 in
set_option maxRecDepth 100000 in
theorem lb_Told_append {κ : Cx} {g : Gx} {M : ST} (hκ : CF κ g RX6 cX6_append wq_X6_append 2 rm_Told_append) {post : Int32 → ST → Prop} (hR : RtxI κ g 2 cX6_append M post) {X : ST} {p1 : Int32} (h : wp_Told_append X p1 post) : Jw κ g 2 X M [(0, .ref (g.2.1 4)), (1, .int p1)] 0 [] := by
  unfold wp_Told_append at h
  refine j_aload_n (pc' := 1) hκ 0 rfl rfl dX6_append_0 rfl ?_
  refine jg_4_2 (pc' := 4) hκ (mi inlX6) (fl_in hκ (mc wm_5_1)) dX6_append_1 rfl ?_
  refine j_bipush (pc' := 6) (v := 12) hκ (by decide) dX6_append_4 rfl ?_
  refine j_icmp_ge (tgt := 29) (pc' := 9) hκ dX6_append_6 (by decide) rfl (fun c => ?_) (fun c => ?_)
  · replace h := h.1 c
    refine j_aload_n (pc' := 30) hκ 0 rfl rfl dX6_append_29 rfl ?_
    refine jg_4_2 (pc' := 33) hκ (mi inlX6) (fl_in hκ (mc wm_5_1)) dX6_append_30 rfl ?_
    exact hR _ _ _ _ dX6_append_33 h
  · replace h := h.2 c
    refine j_aload_n (pc' := 10) hκ 0 rfl rfl dX6_append_9 rfl ?_
    refine jg_4_1 (pc' := 13) hκ (mi inlX6) (fl_in hκ (mc wm_5_0)) dX6_append_10 rfl ?_
    refine j_aload_n (pc' := 14) hκ 0 rfl rfl dX6_append_13 rfl ?_
    refine jg_4_2 (pc' := 17) hκ (mi inlX6) (fl_in hκ (mc wm_5_1)) dX6_append_14 rfl ?_
    refine j_iload_n (pc' := 18) hκ 1 rfl rfl dX6_append_17 rfl ?_
    refine jx_iast (pc' := 19) hκ (ah_27 g) h.1 dX6_append_18 rfl ?_
    replace h := h.2
    refine j_nmX (fun X1 eX1 => ?_)
    replace h := h X1 eX1
    refine j_aload_n (pc' := 20) hκ 0 rfl rfl dX6_append_19 rfl ?_
    refine j_dup (pc' := 21) hκ rfl dX6_append_20 rfl ?_
    refine jg_4_2 (pc' := 24) hκ (mi inlX6) (fl_in hκ (mc wm_5_1)) dX6_append_21 rfl ?_
    refine j_iconst (pc' := 25) (v := 1) hκ (by decide) dX6_append_24 rfl ?_
    refine j_iadd (pc' := 26) hκ dX6_append_25 rfl ?_
    refine jp_4_2 (pc' := 29) hκ (mi inlX6) (fl_in hκ (mc wm_5_1)) dX6_append_26 rfl ?_
    refine j_nmX (fun X2 eX2 => ?_)
    replace h := h X2 eX2
    refine j_aload_n (pc' := 30) hκ 0 rfl rfl dX6_append_29 rfl ?_
    refine jg_4_2 (pc' := 33) hκ (mi inlX6) (fl_in hκ (mc wm_5_1)) dX6_append_30 rfl ?_
    exact hR _ _ _ _ dX6_append_33 h
theorem c_Told_append {g : Gx} (hg : Dg g) {X M : ST} {p1 : Int32} {post : Int32 → ST → Prop} (h : wp_Told_append X p1 post) (l : Launch) : Met l yX6_append wq_X6_append rm_Told_append (va_Pc [.ref (g.2.1 4), .int p1] (PU g X M)) (va_Qi post (fun Y t => va_P g.1 vwCl (ww g Y M) t.heap) (wA g)) 0 0 (wA g) :=
  met_xi hg (by decide) rfl [.ref (g.2.1 4), .int p1] rfl (Nat.le_of_ble_eq_true rfl) (fun κ hκ hR => lb_Told_append hκ hR h) l
theorem wm_27_20 : Cond.methodLink RX9 260 yX6_append ∈ wAll := inr_27 (List.mem_of_getElem? (i := 20) rfl)
theorem wm_27_21 : Cond.instanceMethod yX6_append ∈ wAll := inr_27 (List.mem_of_getElem? (i := 21) rfl)
theorem wm_27_22 : Cond.selects RX6 yX6_append yX6_append ∈ wAll := inr_27 (List.mem_of_getElem? (i := 22) rfl)
theorem wm_27_23 : Cond.code yX6_append cX6_append 2 (some .int) ∈ wAll := inr_27 (List.mem_of_getElem? (i := 23) rfl)
theorem hqV_X6_append : yX6_append.cls = RX6 ∧ yX6_append.cls ≠ "java/lang/invoke/MethodHandle" ∧ yX6_append.cls ≠ "java/lang/invoke/VarHandle" ∧ (parseMethodDescriptor yX6_append.desc).map (fun d => d.parameters.length) = some 1 := by decide +kernel
abbrev rm_LR_put : Room := { frames := 2, cells := 0, slots := 0, locals := 42 }
def wp_LR_put (X : ST) (p1 : Int32) (post : Int32 → ST → Prop) : Prop :=
  wp_Lamps_isLamp X p1 (fun r2 X1 => (¬ r2 = 0 → (wp_Lamps_isLive X1 p1 (fun r4 X3 => (r4 = 0 → (post (-4) X3)) ∧ (¬ r4 = 0 → (wp_Told_holds X3 p1 (fun r6 X5 => (r6 = 0 → (wp_Told_append X5 p1 (fun r8 X7 => post r8 X7))) ∧ (¬ r6 = 0 → (post (-4) X5)))))))) ∧ (r2 = 0 → (post (-1) X1)))
set_option maxHeartbeats 4000000 in
set_option maxRecDepth 100000 in
theorem lb_LR_put {κ : Cx} {g : Gx} {M : ST} (hκ : CF κ g RX9 cX9_put wq_X9_put 2 rm_LR_put) {post : Int32 → ST → Prop} (hR : RtxI κ g 2 cX9_put M post) {X : ST} {p1 : Int32} (h : wp_LR_put X p1 post) : Jw κ g 2 X M [(0, .ref (g.2.1 0)), (1, .int p1)] 0 [] := by
  unfold wp_LR_put at h
  refine j_aload_n (pc' := 1) hκ 0 rfl rfl dX9_put_0 rfl ?_
  refine jg_0_2 (pc' := 4) hκ (mi inlX9) (fl_in hκ (mc wm_2_0)) dX9_put_1 rfl ?_
  refine j_iload_n (pc' := 5) hκ 1 rfl rfl dX9_put_4 rfl ?_
  refine jx_callVi (pc' := 8) hκ (c_Lamps_isLamp (dg hκ) h) rfl rfl rfl (gV wm_17_1 wm_17_2 wm_17_3 wm_1_23 wm_17_4) hqV_X2_isLamp ⟨Nat.le_of_ble_eq_true rfl, Nat.le_of_ble_eq_true rfl⟩ (wg_3 g _ _) rfl rfl rfl (Nat.le_of_ble_eq_true rfl) dX9_put_5 rfl (fun r2 X1 h => ?_)
  refine j_if_ne (tgt := 13) (pc' := 11) hκ dX9_put_8 (by decide) rfl (fun c => ?_) (fun c => ?_)
  · replace h := h.1 c
    refine j_aload_n (pc' := 14) hκ 0 rfl rfl dX9_put_13 rfl ?_
    refine jg_0_2 (pc' := 17) hκ (mi inlX9) (fl_in hκ (mc wm_2_0)) dX9_put_14 rfl ?_
    refine j_iload_n (pc' := 18) hκ 1 rfl rfl dX9_put_17 rfl ?_
    refine jx_callVi (pc' := 21) hκ (c_Lamps_isLive (dg hκ) h) rfl rfl rfl (gV wm_17_22 wm_17_23 wm_18_0 wm_1_23 wm_18_1) hqV_X2_isLive ⟨Nat.le_of_ble_eq_true rfl, Nat.le_of_ble_eq_true rfl⟩ (wg_3 g _ _) rfl rfl rfl (Nat.le_of_ble_eq_true rfl) dX9_put_18 rfl (fun r4 X3 h => ?_)
    refine j_if_eq (tgt := 35) (pc' := 24) hκ dX9_put_21 (by decide) rfl (fun c => ?_) (fun c => ?_)
    · replace h := h.1 c
      refine j_bipush (pc' := 37) (v := (-4)) hκ (by decide) dX9_put_35 rfl ?_
      exact hR _ _ _ _ dX9_put_37 h
    · replace h := h.2 c
      refine j_aload_n (pc' := 25) hκ 0 rfl rfl dX9_put_24 rfl ?_
      refine jg_0_3 (pc' := 28) hκ (mi inlX9) (fl_in hκ (mc wm_2_4)) dX9_put_25 rfl ?_
      refine j_iload_n (pc' := 29) hκ 1 rfl rfl dX9_put_28 rfl ?_
      refine jx_callVi (pc' := 32) hκ (c_Told_holds (dg hκ) h) rfl rfl rfl (gV wm_27_16 wm_27_17 wm_27_18 wm_2_3 wm_27_19) hqV_X6_holds ⟨Nat.le_of_ble_eq_true rfl, Nat.le_of_ble_eq_true rfl⟩ (wg_4 g _ _) rfl rfl rfl (Nat.le_of_ble_eq_true rfl) dX9_put_29 rfl (fun r6 X5 h => ?_)
      refine j_if_eq (tgt := 38) (pc' := 35) hκ dX9_put_32 (by decide) rfl (fun c => ?_) (fun c => ?_)
      · replace h := h.1 c
        refine j_aload_n (pc' := 39) hκ 0 rfl rfl dX9_put_38 rfl ?_
        refine jg_0_3 (pc' := 42) hκ (mi inlX9) (fl_in hκ (mc wm_2_4)) dX9_put_39 rfl ?_
        refine j_iload_n (pc' := 43) hκ 1 rfl rfl dX9_put_42 rfl ?_
        refine jx_callVi (pc' := 46) hκ (c_Told_append (dg hκ) h) rfl rfl rfl (gV wm_27_20 wm_27_21 wm_27_22 wm_2_3 wm_27_23) hqV_X6_append ⟨Nat.le_of_ble_eq_true rfl, Nat.le_of_ble_eq_true rfl⟩ (wg_4 g _ _) rfl rfl rfl (Nat.le_of_ble_eq_true rfl) dX9_put_43 rfl (fun r8 X7 h => ?_)
        exact hR _ _ _ _ dX9_put_46 h
      · replace h := h.2 c
        refine j_bipush (pc' := 37) (v := (-4)) hκ (by decide) dX9_put_35 rfl ?_
        exact hR _ _ _ _ dX9_put_37 h
  · replace h := h.2 c
    refine j_iconst (pc' := 12) (v := (-1)) hκ (by decide) dX9_put_11 rfl ?_
    exact hR _ _ _ _ dX9_put_12 h
theorem c_LR_put {g : Gx} (hg : Dg g) {X M : ST} {p1 : Int32} {post : Int32 → ST → Prop} (h : wp_LR_put X p1 post) (l : Launch) : Met l yX9_put wq_X9_put rm_LR_put (va_Pc [.ref (g.2.1 0), .int p1] (PU g X M)) (va_Qi post (fun Y t => va_P g.1 vwCl (ww g Y M) t.heap) (wA g)) 0 0 (wA g) :=
  met_xi hg (by decide) rfl [.ref (g.2.1 0), .int p1] rfl (Nat.le_of_ble_eq_true rfl) (fun κ hκ hR => lb_LR_put hκ hR h) l
abbrev rm_LR_clear : Room := { frames := 1, cells := 0, slots := 0, locals := 21 }
def wp_LR_clear (X : ST) (post : Int32 → ST → Prop) : Prop :=
  wp_Told_empty X (fun r2 X1 => post r2 X1)
set_option maxHeartbeats 4000000 in
set_option maxRecDepth 100000 in
theorem lb_LR_clear {κ : Cx} {g : Gx} {M : ST} (hκ : CF κ g RX9 cX9_clear wq_X9_clear 1 rm_LR_clear) {post : Int32 → ST → Prop} (hR : RtxI κ g 1 cX9_clear M post) {X : ST} (h : wp_LR_clear X post) : Jw κ g 1 X M [(0, .ref (g.2.1 0))] 0 [] := by
  unfold wp_LR_clear at h
  refine j_aload_n (pc' := 1) hκ 0 rfl rfl dX9_clear_0 rfl ?_
  refine jg_0_3 (pc' := 4) hκ (mi inlX9) (fl_in hκ (mc wm_2_4)) dX9_clear_1 rfl ?_
  refine jx_callVi (pc' := 7) hκ (c_Told_empty (dg hκ) h) rfl rfl rfl (gV wm_10_0 wm_10_1 wm_10_2 wm_2_3 wm_10_3) hqV_X6_empty ⟨Nat.le_of_ble_eq_true rfl, Nat.le_of_ble_eq_true rfl⟩ (wg_4 g _ _) rfl rfl rfl (Nat.le_of_ble_eq_true rfl) dX9_clear_4 rfl (fun r2 X1 h => ?_)
  exact hR _ _ _ _ dX9_clear_7 h
theorem c_LR_clear {g : Gx} (hg : Dg g) {X M : ST} {post : Int32 → ST → Prop} (h : wp_LR_clear X post) (l : Launch) : Met l yX9_clear wq_X9_clear rm_LR_clear (va_Pc [.ref (g.2.1 0)] (PU g X M)) (va_Qi post (fun Y t => va_P g.1 vwCl (ww g Y M) t.heap) (wA g)) 0 0 (wA g) :=
  met_xi hg (by decide) rfl [.ref (g.2.1 0)] rfl (Nat.le_of_ble_eq_true rfl) (fun κ hκ hR => lb_LR_clear hκ hR h) l
abbrev rm_LR_at : Room := { frames := 0, cells := 0, slots := 0, locals := 0 }
def wp_LR_at (X : ST) (p1 : Int32) (post : Int32 → ST → Prop) : Prop :=
  (p1 < 0 → (post (-1) X)) ∧ (¬ p1 < 0 → (((x_Told_count X) ≤ p1 → (post (-1) X)) ∧ (¬ (x_Told_count X) ≤ p1 → (vp_in p1 12 ∧ (post (x_Told_order X p1.toNatClampNeg) X)))))
set_option maxHeartbeats 4000000 in
set_option maxRecDepth 100000 in
theorem lb_LR_at {κ : Cx} {g : Gx} {M : ST} (hκ : CF κ g RX9 cX9_at wq_X9_at 2 rm_LR_at) {post : Int32 → ST → Prop} (hR : RtxI κ g 2 cX9_at M post) {X : ST} {p1 : Int32} (h : wp_LR_at X p1 post) : Jw κ g 2 X M [(0, .ref (g.2.1 0)), (1, .int p1)] 0 [] := by
  unfold wp_LR_at at h
  refine j_iload_n (pc' := 1) hκ 1 rfl rfl dX9_at_0 rfl ?_
  refine j_if_lt (tgt := 27) (pc' := 4) hκ dX9_at_1 (by decide) rfl (fun c => ?_) (fun c => ?_)
  · replace h := h.1 c
    refine j_iconst (pc' := 28) (v := (-1)) hκ (by decide) dX9_at_27 rfl ?_
    exact hR _ _ _ _ dX9_at_28 h
  · replace h := h.2 c
    refine j_iload_n (pc' := 5) hκ 1 rfl rfl dX9_at_4 rfl ?_
    refine j_aload_n (pc' := 6) hκ 0 rfl rfl dX9_at_5 rfl ?_
    refine jg_0_3 (pc' := 9) hκ (mi inlX9) (fl_in hκ (mc wm_2_4)) dX9_at_6 rfl ?_
    refine jg_4_2 (pc' := 12) hκ (mi inlX6) (fl_ne hκ 14 rfl) dX9_at_9 rfl ?_
    refine j_icmp_ge (tgt := 27) (pc' := 15) hκ dX9_at_12 (by decide) rfl (fun c => ?_) (fun c => ?_)
    · replace h := h.1 c
      refine j_iconst (pc' := 28) (v := (-1)) hκ (by decide) dX9_at_27 rfl ?_
      exact hR _ _ _ _ dX9_at_28 h
    · replace h := h.2 c
      refine j_aload_n (pc' := 16) hκ 0 rfl rfl dX9_at_15 rfl ?_
      refine jg_0_3 (pc' := 19) hκ (mi inlX9) (fl_in hκ (mc wm_2_4)) dX9_at_16 rfl ?_
      refine jg_4_1 (pc' := 22) hκ (mi inlX6) (fl_ne hκ 22 rfl) dX9_at_19 rfl ?_
      refine j_iload_n (pc' := 23) hκ 1 rfl rfl dX9_at_22 rfl ?_
      refine jx_iald (pc' := 24) hκ (ah_27 g) h.1 dX9_at_23 rfl ?_
      replace h := h.2
      refine j_goto (pc' := 28) hκ (by decide) dX9_at_24 ?_
      exact hR _ _ _ _ dX9_at_28 h
theorem c_LR_at {g : Gx} (hg : Dg g) {X M : ST} {p1 : Int32} {post : Int32 → ST → Prop} (h : wp_LR_at X p1 post) (l : Launch) : Met l yX9_at wq_X9_at rm_LR_at (va_Pc [.ref (g.2.1 0), .int p1] (PU g X M)) (va_Qi post (fun Y t => va_P g.1 vwCl (ww g Y M) t.heap) (wA g)) 0 0 (wA g) :=
  met_xi hg (by decide) rfl [.ref (g.2.1 0), .int p1] rfl (Nat.le_of_ble_eq_true rfl) (fun κ hκ hR => lb_LR_at hκ hR h) l
theorem wm_29_4 : Cond.methodLink RX6 35 yX2_survey ∈ wAll := inr_29 (List.mem_of_getElem? (i := 4) rfl)
abbrev rm_Told_measure : Room := { frames := 4, cells := 0, slots := 0, locals := 93 }
def wp_Told_measure_11_s (K53 : ST → Int32 → Prop) (post : Int32 → ST → Prop) (rec : ST → Int32 → Int32 → Prop) (X : ST) (l1 : Int32) (l2 : Int32) : Prop :=
  ((x_Told_count X) ≤ l2 → (K53 X l1)) ∧ (¬ (x_Told_count X) ≤ l2 → (vp_in l2 12 ∧ (vp_in (x_Told_order X l2.toNatClampNeg) 12 ∧ (wp_Told_after X l2 (fun r5 X4 => vp_in r5 12 ∧ (vp_in (x_Told_order X4 r5.toNatClampNeg) 12 ∧ (∀ v6 : Int32, v6 = l1 + (x_gaps X4 ((x_Told_order X l2.toNatClampNeg).toNatClampNeg) (x_Told_order X4 r5.toNatClampNeg).toNatClampNeg) → rec X4 v6 (l2 + 1))))))))
def wp_Told_measure_11 (K53 : ST → Int32 → Prop) (post : Int32 → ST → Prop) : Nat → ST → Int32 → Int32 → Prop
  | 0 => fun _ _ _ => False
  | n + 1 => wp_Told_measure_11_s K53 post (wp_Told_measure_11 K53 post n)
set_option maxHeartbeats 4000000 in
set_option maxRecDepth 100000 in
theorem lb_Told_measure_11 {κ : Cx} {g : Gx} {M : ST} (hκ : CF κ g RX6 cX6_measure wq_X6_measure 3 rm_Told_measure) {post : Int32 → ST → Prop} (hR : RtxI κ g 3 cX6_measure M post) {K53 : ST → Int32 → Prop} (hK53 : ∀ (X : ST) (l1 : Int32), K53 X l1 → Jw κ g 3 X M [(1, .int l1)] 53 []) : ∀ (n : Nat) (X : ST) (l1 : Int32) (l2 : Int32), wp_Told_measure_11 K53 post n X l1 l2 → Jw κ g 3 X M [(0, .ref (g.2.1 4)), (1, .int l1), (2, .int l2)] 11 [] := by
  intro n
  induction n with
  | zero =>
    intro X l1 l2  h
    exact h.elim
  | succ n ih =>
    intro X l1 l2  h
    have h : wp_Told_measure_11_s K53 post (wp_Told_measure_11 K53 post n) X l1 l2 := h
    unfold wp_Told_measure_11_s at h
    refine j_iload_n (pc' := 12) hκ 2 rfl rfl dX6_measure_11 rfl ?_
    refine j_aload_n (pc' := 13) hκ 0 rfl rfl dX6_measure_12 rfl ?_
    refine jg_4_2 (pc' := 16) hκ (mi inlX6) (fl_in hκ (mc wm_5_1)) dX6_measure_13 rfl ?_
    refine j_icmp_ge (tgt := 53) (pc' := 19) hκ dX6_measure_16 (by decide) rfl (fun c => ?_) (fun c => ?_)
    · replace h := h.1 c
      refine j_sub [1] rfl ?_
      exact hK53 _ _  h
    · replace h := h.2 c
      refine j_iload_n (pc' := 20) hκ 1 rfl rfl dX6_measure_19 rfl ?_
      refine j_aload_n (pc' := 21) hκ 0 rfl rfl dX6_measure_20 rfl ?_
      refine jg_4_0 (pc' := 24) hκ (mi inlX6) (fl_in hκ (mc wm_5_2)) dX6_measure_21 rfl ?_
      refine jg_3_7 (pc' := 27) hκ (mi inlX2) (fl_ne hκ 42 rfl) dX6_measure_24 rfl ?_
      refine j_aload_n (pc' := 28) hκ 0 rfl rfl dX6_measure_27 rfl ?_
      refine jg_4_1 (pc' := 31) hκ (mi inlX6) (fl_in hκ (mc wm_5_0)) dX6_measure_28 rfl ?_
      refine j_iload_n (pc' := 32) hκ 2 rfl rfl dX6_measure_31 rfl ?_
      refine jx_iald (pc' := 33) hκ (ah_27 g) h.1 dX6_measure_32 rfl ?_
      replace h := h.2
      refine j_aald (pc' := 34) (q := 26) (t := 3) hκ (wg_26 g _ _) rfl h.1 dX6_measure_33 rfl ?_
      have hr3 : (x_Told_order X l2.toNatClampNeg).toNatClampNeg < 12 := Nat.not_le.mp fun q => h.1 (Or.inr q)
      replace h := h.2
      refine j_aload_n (pc' := 35) hκ 0 rfl rfl dX6_measure_34 rfl ?_
      refine jg_4_1 (pc' := 38) hκ (mi inlX6) (fl_in hκ (mc wm_5_0)) dX6_measure_35 rfl ?_
      refine j_aload_n (pc' := 39) hκ 0 rfl rfl dX6_measure_38 rfl ?_
      refine j_iload_n (pc' := 40) hκ 2 rfl rfl dX6_measure_39 rfl ?_
      refine jx_callVi (pc' := 43) hκ (c_Told_after (dg hκ) h) rfl rfl rfl (gV wm_26_0 wm_26_1 wm_26_2 wm_2_3 wm_26_3) hqV_X6_after ⟨Nat.le_of_ble_eq_true rfl, Nat.le_of_ble_eq_true rfl⟩ (wg_4 g _ _) rfl rfl rfl (Nat.le_of_ble_eq_true rfl) dX6_measure_40 rfl (fun r5 X4 h => ?_)
      refine jx_iald (pc' := 44) hκ (ah_27 g) h.1 dX6_measure_43 rfl ?_
      replace h := h.2
      refine jx_iald (pc' := 45) hκ (ah_gaps g hr3) h.1 dX6_measure_44 rfl ?_
      replace h := h.2
      refine j_iadd (pc' := 46) hκ dX6_measure_45 rfl ?_
      refine j_topi (fun v6 ev6 => ?_)
      replace h := h v6 ev6
      refine j_istore_n (pc' := 47) (lv' := [(1, .int v6), (0, .ref (g.2.1 4)), (2, .int l2)]) hκ (Nat.le_of_ble_eq_true rfl) rfl rfl dX6_measure_46 rfl ?_
      refine j_iinc (pc' := 50) (v := l2 + 1) (lv' := [(2, .int (l2 + 1)), (1, .int v6), (0, .ref (g.2.1 4))]) hκ 2 rfl rfl (Nat.le_of_ble_eq_true rfl) rfl dX6_measure_47 rfl ?_
      refine j_goto (pc' := 11) hκ (by decide) dX6_measure_50 ?_
      refine j_sub [2, 1, 0] rfl ?_
      exact ih _ _ _  h
def wp_Told_measure (X : ST) (post : Int32 → ST → Prop) : Prop :=
  wp_Lamps_survey X (fun X1 => ∃ n, wp_Told_measure_11 (fun X7 v8 => post v8 X7) post n X1 0 0)
set_option maxHeartbeats 4000000 in
set_option maxRecDepth 100000 in
theorem lb_Told_measure {κ : Cx} {g : Gx} {M : ST} (hκ : CF κ g RX6 cX6_measure wq_X6_measure 3 rm_Told_measure) {post : Int32 → ST → Prop} (hR : RtxI κ g 3 cX6_measure M post) {X : ST} (h : wp_Told_measure X post) : Jw κ g 3 X M [(0, .ref (g.2.1 4))] 0 [] := by
  unfold wp_Told_measure at h
  refine j_aload_n (pc' := 1) hκ 0 rfl rfl dX6_measure_0 rfl ?_
  refine jg_4_0 (pc' := 4) hκ (mi inlX6) (fl_in hκ (mc wm_5_2)) dX6_measure_1 rfl ?_
  refine jx_callVv (pc' := 7) hκ (c_Lamps_survey (dg hκ) h) rfl rfl rfl (gV wm_29_4 wm_18_18 wm_18_19 wm_1_23 wm_18_20) hqV_X2_survey ⟨Nat.le_of_ble_eq_true rfl, Nat.le_of_ble_eq_true rfl⟩ (wg_3 g _ _) rfl rfl rfl (Nat.le_of_ble_eq_true rfl) dX6_measure_4 rfl (fun X1 h => ?_)
  refine j_iconst (pc' := 8) (v := 0) hκ (by decide) dX6_measure_7 rfl ?_
  refine j_istore_n (pc' := 9) (lv' := [(1, .int 0), (0, .ref (g.2.1 4))]) hκ (Nat.le_of_ble_eq_true rfl) rfl rfl dX6_measure_8 rfl ?_
  refine j_iconst (pc' := 10) (v := 0) hκ (by decide) dX6_measure_9 rfl ?_
  refine j_istore_n (pc' := 11) (lv' := [(2, .int 0), (1, .int 0), (0, .ref (g.2.1 4))]) hκ (Nat.le_of_ble_eq_true rfl) rfl rfl dX6_measure_10 rfl ?_
  obtain ⟨n, h⟩ := h
  refine j_sub [2, 1, 0] rfl ?_
  refine lb_Told_measure_11 hκ hR ?_ n _ _ _  h
  intro X7 v8  h
  refine j_iload_n (pc' := 54) hκ 0 rfl rfl dX6_measure_53 rfl ?_
  exact hR _ _ _ _ dX6_measure_54 h
theorem c_Told_measure {g : Gx} (hg : Dg g) {X M : ST} {post : Int32 → ST → Prop} (h : wp_Told_measure X post) (l : Launch) : Met l yX6_measure wq_X6_measure rm_Told_measure (va_Pc [.ref (g.2.1 4)] (PU g X M)) (va_Qi post (fun Y t => va_P g.1 vwCl (ww g Y M) t.heap) (wA g)) 0 0 (wA g) :=
  met_xi hg (by decide) rfl [.ref (g.2.1 4)] rfl (Nat.le_of_ble_eq_true rfl) (fun κ hκ hR => lb_Told_measure hκ hR h) l
theorem wm_29_0 : Cond.methodLink RX9 269 yX6_measure ∈ wAll := inr_29 (List.mem_of_getElem? (i := 0) rfl)
theorem wm_29_1 : Cond.instanceMethod yX6_measure ∈ wAll := inr_29 (List.mem_of_getElem? (i := 1) rfl)
theorem wm_29_2 : Cond.selects RX6 yX6_measure yX6_measure ∈ wAll := inr_29 (List.mem_of_getElem? (i := 2) rfl)
theorem wm_29_3 : Cond.code yX6_measure cX6_measure 3 (some .int) ∈ wAll := inr_29 (List.mem_of_getElem? (i := 3) rfl)
theorem hqV_X6_measure : yX6_measure.cls = RX6 ∧ yX6_measure.cls ≠ "java/lang/invoke/MethodHandle" ∧ yX6_measure.cls ≠ "java/lang/invoke/VarHandle" ∧ (parseMethodDescriptor yX6_measure.desc).map (fun d => d.parameters.length) = some 0 := by decide +kernel
abbrev rm_LR_length : Room := { frames := 5, cells := 0, slots := 0, locals := 115 }
def wp_LR_length (X : ST) (post : Int32 → ST → Prop) : Prop :=
  wp_Told_isWhole X (fun r2 X1 => (¬ r2 = 0 → (wp_Told_measure X1 (fun r4 X3 => (r4 < 1000000 → (post r4 X3)) ∧ (¬ r4 < 1000000 → (post (-10) X3))))) ∧ (r2 = 0 → (post (-4) X1)))
set_option maxHeartbeats 4000000 in
set_option maxRecDepth 100000 in
theorem lb_LR_length {κ : Cx} {g : Gx} {M : ST} (hκ : CF κ g RX9 cX9_length wq_X9_length 2 rm_LR_length) {post : Int32 → ST → Prop} (hR : RtxI κ g 2 cX9_length M post) {X : ST} (h : wp_LR_length X post) : Jw κ g 2 X M [(0, .ref (g.2.1 0))] 0 [] := by
  unfold wp_LR_length at h
  refine j_aload_n (pc' := 1) hκ 0 rfl rfl dX9_length_0 rfl ?_
  refine jg_0_3 (pc' := 4) hκ (mi inlX9) (fl_in hκ (mc wm_2_4)) dX9_length_1 rfl ?_
  refine jx_callVi (pc' := 7) hκ (c_Told_isWhole (dg hκ) h) rfl rfl rfl (gV wm_25_15 wm_25_16 wm_25_17 wm_2_3 wm_25_18) hqV_X6_isWhole ⟨Nat.le_of_ble_eq_true rfl, Nat.le_of_ble_eq_true rfl⟩ (wg_4 g _ _) rfl rfl rfl (Nat.le_of_ble_eq_true rfl) dX9_length_4 rfl (fun r2 X1 h => ?_)
  refine j_if_ne (tgt := 13) (pc' := 10) hκ dX9_length_7 (by decide) rfl (fun c => ?_) (fun c => ?_)
  · replace h := h.1 c
    refine j_aload_n (pc' := 14) hκ 0 rfl rfl dX9_length_13 rfl ?_
    refine jg_0_3 (pc' := 17) hκ (mi inlX9) (fl_in hκ (mc wm_2_4)) dX9_length_14 rfl ?_
    refine jx_callVi (pc' := 20) hκ (c_Told_measure (dg hκ) h) rfl rfl rfl (gV wm_29_0 wm_29_1 wm_29_2 wm_2_3 wm_29_3) hqV_X6_measure ⟨Nat.le_of_ble_eq_true rfl, Nat.le_of_ble_eq_true rfl⟩ (wg_4 g _ _) rfl rfl rfl (Nat.le_of_ble_eq_true rfl) dX9_length_17 rfl (fun r4 X3 h => ?_)
    refine j_istore_n (pc' := 21) (lv' := [(1, .int r4), (0, .ref (g.2.1 0))]) hκ (Nat.le_of_ble_eq_true rfl) rfl rfl dX9_length_20 rfl ?_
    refine j_iload_n (pc' := 22) hκ 0 rfl rfl dX9_length_21 rfl ?_
    refine j_ldc (pc' := 24) hκ (mc wm_14_21) dX9_length_22 rfl ?_
    refine j_icmp_lt (tgt := 32) (pc' := 27) hκ dX9_length_24 (by decide) rfl (fun c => ?_) (fun c => ?_)
    · replace h := h.1 c
      refine j_iload_n (pc' := 33) hκ 0 rfl rfl dX9_length_32 rfl ?_
      exact hR _ _ _ _ dX9_length_33 h
    · replace h := h.2 c
      refine j_bipush (pc' := 29) (v := (-10)) hκ (by decide) dX9_length_27 rfl ?_
      refine j_goto (pc' := 33) hκ (by decide) dX9_length_29 ?_
      exact hR _ _ _ _ dX9_length_33 h
  · replace h := h.2 c
    refine j_bipush (pc' := 12) (v := (-4)) hκ (by decide) dX9_length_10 rfl ?_
    exact hR _ _ _ _ dX9_length_12 h
theorem c_LR_length {g : Gx} (hg : Dg g) {X M : ST} {post : Int32 → ST → Prop} (h : wp_LR_length X post) (l : Launch) : Met l yX9_length wq_X9_length rm_LR_length (va_Pc [.ref (g.2.1 0)] (PU g X M)) (va_Qi post (fun Y t => va_P g.1 vwCl (ww g Y M) t.heap) (wA g)) 0 0 (wA g) :=
  met_xi hg (by decide) rfl [.ref (g.2.1 0)] rfl (Nat.le_of_ble_eq_true rfl) (fun κ hκ hR => lb_LR_length hκ hR h) l
abbrev rm_Told_keepsTwins : Room := { frames := 4, cells := 0, slots := 0, locals := 93 }
def wp_Told_keepsTwins_9_s (K64 : ST → Prop) (K72 : ST → Prop) (post : Int32 → ST → Prop) (rec : ST → Int32 → Prop) (X : ST) (l1 : Int32) : Prop :=
  ((x_Told_count X) ≤ l1 → (K72 X)) ∧ (¬ (x_Told_count X) ≤ l1 → (wp_Told_before X l1 (fun r4 X3 => vp_in r4 12 ∧ (wp_Told_after X3 l1 (fun r6 X5 => vp_in r6 12 ∧ (∀ v7 : Int32, v7 = ((1 : Int32) <<< ((x_Told_order X3 r4.toNatClampNeg) &&& 31)) ||| ((1 : Int32) <<< ((x_Told_order X5 r6.toNatClampNeg) &&& 31)) → vp_in l1 12 ∧ (vp_in (x_Told_order X5 l1.toNatClampNeg) 12 ∧ ((((x_Lamps_needs X5 (x_Told_order X5 l1.toNatClampNeg).toNatClampNeg) &&& (v7 ^^^ (-1))) = 0 → (rec X5 (l1 + 1))) ∧ (¬ ((x_Lamps_needs X5 (x_Told_order X5 l1.toNatClampNeg).toNatClampNeg) &&& (v7 ^^^ (-1))) = 0 → (K64 X5))))))))))
def wp_Told_keepsTwins_9 (K64 : ST → Prop) (K72 : ST → Prop) (post : Int32 → ST → Prop) : Nat → ST → Int32 → Prop
  | 0 => fun _ _ => False
  | n + 1 => wp_Told_keepsTwins_9_s K64 K72 post (wp_Told_keepsTwins_9 K64 K72 post n)
set_option maxHeartbeats 4000000 in
set_option maxRecDepth 100000 in
theorem lb_Told_keepsTwins_9 {κ : Cx} {g : Gx} {M : ST} (hκ : CF κ g RX6 cX6_keepsTwins wq_X6_keepsTwins 3 rm_Told_keepsTwins) {post : Int32 → ST → Prop} (hR : RtxZ κ g 3 cX6_keepsTwins M post) {K64 : ST → Prop} {K72 : ST → Prop} (hK64 : ∀ (X : ST), K64 X → Jw κ g 3 X M [] 64 []) (hK72 : ∀ (X : ST), K72 X → Jw κ g 3 X M [] 72 []) : ∀ (n : Nat) (X : ST) (l1 : Int32), wp_Told_keepsTwins_9 K64 K72 post n X l1 → Jw κ g 3 X M [(0, .ref (g.2.1 4)), (1, .int l1)] 9 [] := by
  intro n
  induction n with
  | zero =>
    intro X l1  h
    exact h.elim
  | succ n ih =>
    intro X l1  h
    have h : wp_Told_keepsTwins_9_s K64 K72 post (wp_Told_keepsTwins_9 K64 K72 post n) X l1 := h
    unfold wp_Told_keepsTwins_9_s at h
    refine j_iload_n (pc' := 10) hκ 1 rfl rfl dX6_keepsTwins_9 rfl ?_
    refine j_aload_n (pc' := 11) hκ 0 rfl rfl dX6_keepsTwins_10 rfl ?_
    refine jg_4_2 (pc' := 14) hκ (mi inlX6) (fl_in hκ (mc wm_5_1)) dX6_keepsTwins_11 rfl ?_
    refine j_icmp_ge (tgt := 72) (pc' := 17) hκ dX6_keepsTwins_14 (by decide) rfl (fun c => ?_) (fun c => ?_)
    · replace h := h.1 c
      refine j_sub [] rfl ?_
      exact hK72 _  h
    · replace h := h.2 c
      refine j_iconst (pc' := 18) (v := 1) hκ (by decide) dX6_keepsTwins_17 rfl ?_
      refine j_aload_n (pc' := 19) hκ 0 rfl rfl dX6_keepsTwins_18 rfl ?_
      refine jg_4_1 (pc' := 22) hκ (mi inlX6) (fl_in hκ (mc wm_5_0)) dX6_keepsTwins_19 rfl ?_
      refine j_aload_n (pc' := 23) hκ 0 rfl rfl dX6_keepsTwins_22 rfl ?_
      refine j_iload_n (pc' := 24) hκ 1 rfl rfl dX6_keepsTwins_23 rfl ?_
      refine jx_callVi (pc' := 27) hκ (c_Told_before (dg hκ) h) rfl rfl rfl (gV wm_26_4 wm_26_5 wm_26_6 wm_2_3 wm_26_7) hqV_X6_before ⟨Nat.le_of_ble_eq_true rfl, Nat.le_of_ble_eq_true rfl⟩ (wg_4 g _ _) rfl rfl rfl (Nat.le_of_ble_eq_true rfl) dX6_keepsTwins_24 rfl (fun r4 X3 h => ?_)
      refine jx_iald (pc' := 28) hκ (ah_27 g) h.1 dX6_keepsTwins_27 rfl ?_
      replace h := h.2
      refine j_ishl (pc' := 29) hκ dX6_keepsTwins_28 rfl ?_
      refine j_iconst (pc' := 30) (v := 1) hκ (by decide) dX6_keepsTwins_29 rfl ?_
      refine j_aload_n (pc' := 31) hκ 0 rfl rfl dX6_keepsTwins_30 rfl ?_
      refine jg_4_1 (pc' := 34) hκ (mi inlX6) (fl_in hκ (mc wm_5_0)) dX6_keepsTwins_31 rfl ?_
      refine j_aload_n (pc' := 35) hκ 0 rfl rfl dX6_keepsTwins_34 rfl ?_
      refine j_iload_n (pc' := 36) hκ 1 rfl rfl dX6_keepsTwins_35 rfl ?_
      refine jx_callVi (pc' := 39) hκ (c_Told_after (dg hκ) h) rfl rfl rfl (gV wm_26_0 wm_26_1 wm_26_2 wm_2_3 wm_26_3) hqV_X6_after ⟨Nat.le_of_ble_eq_true rfl, Nat.le_of_ble_eq_true rfl⟩ (wg_4 g _ _) rfl rfl rfl (Nat.le_of_ble_eq_true rfl) dX6_keepsTwins_36 rfl (fun r6 X5 h => ?_)
      refine jx_iald (pc' := 40) hκ (ah_27 g) h.1 dX6_keepsTwins_39 rfl ?_
      replace h := h.2
      refine j_ishl (pc' := 41) hκ dX6_keepsTwins_40 rfl ?_
      refine j_ior (pc' := 42) hκ dX6_keepsTwins_41 rfl ?_
      refine j_topi (fun v7 ev7 => ?_)
      replace h := h v7 ev7
      refine j_istore_n (pc' := 43) (lv' := [(2, .int v7), (0, .ref (g.2.1 4)), (1, .int l1)]) hκ (Nat.le_of_ble_eq_true rfl) rfl rfl dX6_keepsTwins_42 rfl ?_
      refine j_aload_n (pc' := 44) hκ 1 rfl rfl dX6_keepsTwins_43 rfl ?_
      refine jg_4_0 (pc' := 47) hκ (mi inlX6) (fl_in hκ (mc wm_5_2)) dX6_keepsTwins_44 rfl ?_
      refine jg_3_6 (pc' := 50) hκ (mi inlX2) (fl_ne hκ 43 rfl) dX6_keepsTwins_47 rfl ?_
      refine j_aload_n (pc' := 51) hκ 1 rfl rfl dX6_keepsTwins_50 rfl ?_
      refine jg_4_1 (pc' := 54) hκ (mi inlX6) (fl_in hκ (mc wm_5_0)) dX6_keepsTwins_51 rfl ?_
      refine j_iload_n (pc' := 55) hκ 2 rfl rfl dX6_keepsTwins_54 rfl ?_
      refine jx_iald (pc' := 56) hκ (ah_27 g) h.1 dX6_keepsTwins_55 rfl ?_
      replace h := h.2
      refine jx_iald (pc' := 57) hκ (ah_25 g) h.1 dX6_keepsTwins_56 rfl ?_
      replace h := h.2
      refine j_iload_n (pc' := 58) hκ 0 rfl rfl dX6_keepsTwins_57 rfl ?_
      refine j_iconst (pc' := 59) (v := (-1)) hκ (by decide) dX6_keepsTwins_58 rfl ?_
      refine j_ixor (pc' := 60) hκ dX6_keepsTwins_59 rfl ?_
      refine j_iand (pc' := 61) hκ dX6_keepsTwins_60 rfl ?_
      refine j_if_eq (tgt := 66) (pc' := 64) hκ dX6_keepsTwins_61 (by decide) rfl (fun c => ?_) (fun c => ?_)
      · replace h := h.1 c
        refine j_iinc (pc' := 69) (v := l1 + 1) (lv' := [(1, .int (l1 + 1)), (2, .int v7), (0, .ref (g.2.1 4))]) hκ 2 rfl rfl (Nat.le_of_ble_eq_true rfl) rfl dX6_keepsTwins_66 rfl ?_
        refine j_goto (pc' := 9) hκ (by decide) dX6_keepsTwins_69 ?_
        refine j_sub [2, 0] rfl ?_
        exact ih _ _  h
      · replace h := h.2 c
        refine j_sub [] rfl ?_
        exact hK64 _  h
def wp_Told_keepsTwins (X : ST) (post : Int32 → ST → Prop) : Prop :=
  wp_Lamps_survey X (fun X1 => ∃ n, wp_Told_keepsTwins_9 (fun X8 => post 0 X8) (fun X9 => post 1 X9) post n X1 0)
set_option maxHeartbeats 4000000 in
set_option maxRecDepth 100000 in
theorem lb_Told_keepsTwins {κ : Cx} {g : Gx} {M : ST} (hκ : CF κ g RX6 cX6_keepsTwins wq_X6_keepsTwins 3 rm_Told_keepsTwins) {post : Int32 → ST → Prop} (hR : RtxZ κ g 3 cX6_keepsTwins M post) {X : ST} (h : wp_Told_keepsTwins X post) : Jw κ g 3 X M [(0, .ref (g.2.1 4))] 0 [] := by
  unfold wp_Told_keepsTwins at h
  refine j_aload_n (pc' := 1) hκ 0 rfl rfl dX6_keepsTwins_0 rfl ?_
  refine jg_4_0 (pc' := 4) hκ (mi inlX6) (fl_in hκ (mc wm_5_2)) dX6_keepsTwins_1 rfl ?_
  refine jx_callVv (pc' := 7) hκ (c_Lamps_survey (dg hκ) h) rfl rfl rfl (gV wm_29_4 wm_18_18 wm_18_19 wm_1_23 wm_18_20) hqV_X2_survey ⟨Nat.le_of_ble_eq_true rfl, Nat.le_of_ble_eq_true rfl⟩ (wg_3 g _ _) rfl rfl rfl (Nat.le_of_ble_eq_true rfl) dX6_keepsTwins_4 rfl (fun X1 h => ?_)
  refine j_iconst (pc' := 8) (v := 0) hκ (by decide) dX6_keepsTwins_7 rfl ?_
  refine j_istore_n (pc' := 9) (lv' := [(1, .int 0), (0, .ref (g.2.1 4))]) hκ (Nat.le_of_ble_eq_true rfl) rfl rfl dX6_keepsTwins_8 rfl ?_
  obtain ⟨n, h⟩ := h
  refine j_sub [1, 0] rfl ?_
  refine lb_Told_keepsTwins_9 hκ hR ?_ ?_ n _ _  h
  · intro X8  h
    refine j_iconst (pc' := 65) (v := 0) hκ (by decide) dX6_keepsTwins_64 rfl ?_
    exact hR _ _ _ _ dX6_keepsTwins_65 (Or.inl rfl) h
  · intro X9  h
    refine j_iconst (pc' := 73) (v := 1) hκ (by decide) dX6_keepsTwins_72 rfl ?_
    exact hR _ _ _ _ dX6_keepsTwins_73 (Or.inr rfl) h
theorem c_Told_keepsTwins {g : Gx} (hg : Dg g) {X M : ST} {post : Int32 → ST → Prop} (h : wp_Told_keepsTwins X post) (l : Launch) : Met l yX6_keepsTwins wq_X6_keepsTwins rm_Told_keepsTwins (va_Pc [.ref (g.2.1 4)] (PU g X M)) (va_Qi post (fun Y t => va_P g.1 vwCl (ww g Y M) t.heap) (wA g)) 0 0 (wA g) :=
  met_xz hg (by decide) rfl [.ref (g.2.1 4)] rfl (Nat.le_of_ble_eq_true rfl) (fun κ hκ hR => lb_Told_keepsTwins hκ hR h) l
theorem wm_29_13 : Cond.methodLink RX9 272 yX6_keepsTwins ∈ wAll := inr_29 (List.mem_of_getElem? (i := 13) rfl)
theorem wm_29_14 : Cond.instanceMethod yX6_keepsTwins ∈ wAll := inr_29 (List.mem_of_getElem? (i := 14) rfl)
theorem wm_29_15 : Cond.selects RX6 yX6_keepsTwins yX6_keepsTwins ∈ wAll := inr_29 (List.mem_of_getElem? (i := 15) rfl)
theorem wm_29_16 : Cond.code yX6_keepsTwins cX6_keepsTwins 3 (some .boolean) ∈ wAll := inr_29 (List.mem_of_getElem? (i := 16) rfl)
theorem hqV_X6_keepsTwins : yX6_keepsTwins.cls = RX6 ∧ yX6_keepsTwins.cls ≠ "java/lang/invoke/MethodHandle" ∧ yX6_keepsTwins.cls ≠ "java/lang/invoke/VarHandle" ∧ (parseMethodDescriptor yX6_keepsTwins.desc).map (fun d => d.parameters.length) = some 0 := by decide +kernel
abbrev rm_LR_keeps : Room := { frames := 5, cells := 0, slots := 0, locals := 115 }
def wp_LR_keeps (X : ST) (post : Int32 → ST → Prop) : Prop :=
  wp_Told_isWhole X (fun r2 X1 => (¬ r2 = 0 → (wp_Told_keepsTwins X1 (fun r4 X3 => (r4 = 0 → (post 0 X3)) ∧ (¬ r4 = 0 → (post 1 X3))))) ∧ (r2 = 0 → (post (-4) X1)))
set_option maxHeartbeats 4000000 in
set_option maxRecDepth 100000 in
theorem lb_LR_keeps {κ : Cx} {g : Gx} {M : ST} (hκ : CF κ g RX9 cX9_keeps wq_X9_keeps 1 rm_LR_keeps) {post : Int32 → ST → Prop} (hR : RtxI κ g 1 cX9_keeps M post) {X : ST} (h : wp_LR_keeps X post) : Jw κ g 1 X M [(0, .ref (g.2.1 0))] 0 [] := by
  unfold wp_LR_keeps at h
  refine j_aload_n (pc' := 1) hκ 0 rfl rfl dX9_keeps_0 rfl ?_
  refine jg_0_3 (pc' := 4) hκ (mi inlX9) (fl_in hκ (mc wm_2_4)) dX9_keeps_1 rfl ?_
  refine jx_callVi (pc' := 7) hκ (c_Told_isWhole (dg hκ) h) rfl rfl rfl (gV wm_25_15 wm_25_16 wm_25_17 wm_2_3 wm_25_18) hqV_X6_isWhole ⟨Nat.le_of_ble_eq_true rfl, Nat.le_of_ble_eq_true rfl⟩ (wg_4 g _ _) rfl rfl rfl (Nat.le_of_ble_eq_true rfl) dX9_keeps_4 rfl (fun r2 X1 h => ?_)
  refine j_if_ne (tgt := 13) (pc' := 10) hκ dX9_keeps_7 (by decide) rfl (fun c => ?_) (fun c => ?_)
  · replace h := h.1 c
    refine j_aload_n (pc' := 14) hκ 0 rfl rfl dX9_keeps_13 rfl ?_
    refine jg_0_3 (pc' := 17) hκ (mi inlX9) (fl_in hκ (mc wm_2_4)) dX9_keeps_14 rfl ?_
    refine jx_callVi (pc' := 20) hκ (c_Told_keepsTwins (dg hκ) h) rfl rfl rfl (gV wm_29_13 wm_29_14 wm_29_15 wm_2_3 wm_29_16) hqV_X6_keepsTwins ⟨Nat.le_of_ble_eq_true rfl, Nat.le_of_ble_eq_true rfl⟩ (wg_4 g _ _) rfl rfl rfl (Nat.le_of_ble_eq_true rfl) dX9_keeps_17 rfl (fun r4 X3 h => ?_)
    refine j_if_eq (tgt := 27) (pc' := 23) hκ dX9_keeps_20 (by decide) rfl (fun c => ?_) (fun c => ?_)
    · replace h := h.1 c
      refine j_iconst (pc' := 28) (v := 0) hκ (by decide) dX9_keeps_27 rfl ?_
      exact hR _ _ _ _ dX9_keeps_28 h
    · replace h := h.2 c
      refine j_iconst (pc' := 24) (v := 1) hκ (by decide) dX9_keeps_23 rfl ?_
      refine j_goto (pc' := 28) hκ (by decide) dX9_keeps_24 ?_
      exact hR _ _ _ _ dX9_keeps_28 h
  · replace h := h.2 c
    refine j_bipush (pc' := 12) (v := (-4)) hκ (by decide) dX9_keeps_10 rfl ?_
    exact hR _ _ _ _ dX9_keeps_12 h
theorem c_LR_keeps {g : Gx} (hg : Dg g) {X M : ST} {post : Int32 → ST → Prop} (h : wp_LR_keeps X post) (l : Launch) : Met l yX9_keeps wq_X9_keeps rm_LR_keeps (va_Pc [.ref (g.2.1 0)] (PU g X M)) (va_Qi post (fun Y t => va_P g.1 vwCl (ww g Y M) t.heap) (wA g)) 0 0 (wA g) :=
  met_xi hg (by decide) rfl [.ref (g.2.1 0)] rfl (Nat.le_of_ble_eq_true rfl) (fun κ hκ hR => lb_LR_keeps hκ hR h) l
abbrev rm_Told_reverse : Room := { frames := 0, cells := 0, slots := 0, locals := 0 }
def wp_Told_reverse_5_s (K50 : ST → Prop) (post : ST → Prop) (rec : ST → Int32 → Int32 → Prop) (X : ST) (l3 : Int32) (l4 : Int32) : Prop :=
  (l4 ≤ l3 → (K50 X)) ∧ (¬ l4 ≤ l3 → (vp_in l3 12 ∧ (∀ v1 : Int32, v1 = x_Told_order X l3.toNatClampNeg → vp_in l4 12 ∧ (vp_in l3 12 ∧ (∀ X2 : ST, X2 = xs_Told_order X (upd (x_Told_order X) l3.toNatClampNeg (x_Told_order X l4.toNatClampNeg)) → vp_in l4 12 ∧ (∀ X3 : ST, X3 = xs_Told_order X2 (upd (x_Told_order X2) l4.toNatClampNeg v1) → rec X3 (l3 + 1) (l4 + (-1))))))))
def wp_Told_reverse_5 (K50 : ST → Prop) (post : ST → Prop) : Nat → ST → Int32 → Int32 → Prop
  | 0 => fun _ _ _ => False
  | n + 1 => wp_Told_reverse_5_s K50 post (wp_Told_reverse_5 K50 post n)
set_option maxHeartbeats 4000000 in
set_option maxRecDepth 100000 in
theorem lb_Told_reverse_5 {κ : Cx} {g : Gx} {M : ST} (hκ : CF κ g RX6 cX6_reverse wq_X6_reverse 6 rm_Told_reverse) {post : ST → Prop} (hR : RtxV κ g 6 cX6_reverse M post) {K50 : ST → Prop} (hK50 : ∀ (X : ST), K50 X → Jw κ g 6 X M [] 50 []) : ∀ (n : Nat) (X : ST) (l3 : Int32) (l4 : Int32), wp_Told_reverse_5 K50 post n X l3 l4 → Jw κ g 6 X M [(0, .ref (g.2.1 4)), (3, .int l3), (4, .int l4)] 5 [] := by
  intro n
  induction n with
  | zero =>
    intro X l3 l4  h
    exact h.elim
  | succ n ih =>
    intro X l3 l4  h
    have h : wp_Told_reverse_5_s K50 post (wp_Told_reverse_5 K50 post n) X l3 l4 := h
    unfold wp_Told_reverse_5_s at h
    refine j_iload_n (pc' := 6) hκ 1 rfl rfl dX6_reverse_5 rfl ?_
    refine j_iload (pc' := 8) hκ 2 rfl dX6_reverse_6 rfl ?_
    refine j_icmp_ge (tgt := 50) (pc' := 11) hκ dX6_reverse_8 (by decide) rfl (fun c => ?_) (fun c => ?_)
    · replace h := h.1 c
      refine j_sub [] rfl ?_
      exact hK50 _  h
    · replace h := h.2 c
      refine j_aload_n (pc' := 12) hκ 0 rfl rfl dX6_reverse_11 rfl ?_
      refine jg_4_1 (pc' := 15) hκ (mi inlX6) (fl_in hκ (mc wm_5_0)) dX6_reverse_12 rfl ?_
      refine j_iload_n (pc' := 16) hκ 1 rfl rfl dX6_reverse_15 rfl ?_
      refine jx_iald (pc' := 17) hκ (ah_27 g) h.1 dX6_reverse_16 rfl ?_
      replace h := h.2
      refine j_topi (fun v1 ev1 => ?_)
      replace h := h v1 ev1
      refine j_istore (pc' := 19) (lv' := [(5, .int v1), (0, .ref (g.2.1 4)), (3, .int l3), (4, .int l4)]) hκ (Nat.le_of_ble_eq_true rfl) rfl dX6_reverse_17 rfl ?_
      refine j_aload_n (pc' := 20) hκ 1 rfl rfl dX6_reverse_19 rfl ?_
      refine jg_4_1 (pc' := 23) hκ (mi inlX6) (fl_in hκ (mc wm_5_0)) dX6_reverse_20 rfl ?_
      refine j_iload_n (pc' := 24) hκ 2 rfl rfl dX6_reverse_23 rfl ?_
      refine j_aload_n (pc' := 25) hκ 1 rfl rfl dX6_reverse_24 rfl ?_
      refine jg_4_1 (pc' := 28) hκ (mi inlX6) (fl_in hκ (mc wm_5_0)) dX6_reverse_25 rfl ?_
      refine j_iload (pc' := 30) hκ 3 rfl dX6_reverse_28 rfl ?_
      refine jx_iald (pc' := 31) hκ (ah_27 g) h.1 dX6_reverse_30 rfl ?_
      replace h := h.2
      refine jx_iast (pc' := 32) hκ (ah_27 g) h.1 dX6_reverse_31 rfl ?_
      replace h := h.2
      refine j_nmX (fun X2 eX2 => ?_)
      replace h := h X2 eX2
      refine j_aload_n (pc' := 33) hκ 1 rfl rfl dX6_reverse_32 rfl ?_
      refine jg_4_1 (pc' := 36) hκ (mi inlX6) (fl_in hκ (mc wm_5_0)) dX6_reverse_33 rfl ?_
      refine j_iload (pc' := 38) hκ 3 rfl dX6_reverse_36 rfl ?_
      refine j_iload (pc' := 40) hκ 0 rfl dX6_reverse_38 rfl ?_
      refine jx_iast (pc' := 41) hκ (ah_27 g) h.1 dX6_reverse_40 rfl ?_
      replace h := h.2
      refine j_nmX (fun X3 eX3 => ?_)
      replace h := h X3 eX3
      refine j_iinc (pc' := 44) (v := l3 + 1) (lv' := [(3, .int (l3 + 1)), (5, .int v1), (0, .ref (g.2.1 4)), (4, .int l4)]) hκ 2 rfl rfl (Nat.le_of_ble_eq_true rfl) rfl dX6_reverse_41 rfl ?_
      refine j_iinc (pc' := 47) (v := l4 + (-1)) (lv' := [(4, .int (l4 + (-1))), (3, .int (l3 + 1)), (5, .int v1), (0, .ref (g.2.1 4))]) hκ 3 rfl (congrArg (fun z => l4 + z) (by decide)) (Nat.le_of_ble_eq_true rfl) rfl dX6_reverse_44 rfl ?_
      refine j_goto (pc' := 5) hκ (by decide) dX6_reverse_47 ?_
      refine j_sub [3, 1, 0] rfl ?_
      exact ih _ _ _  h
def wp_Told_reverse (X : ST) (p1 : Int32) (p2 : Int32) (post : ST → Prop) : Prop :=
  ∃ n, wp_Told_reverse_5 (fun X4 => post X4) post n X p1 p2
set_option maxHeartbeats 4000000 in
set_option maxRecDepth 100000 in
theorem lb_Told_reverse {κ : Cx} {g : Gx} {M : ST} (hκ : CF κ g RX6 cX6_reverse wq_X6_reverse 6 rm_Told_reverse) {post : ST → Prop} (hR : RtxV κ g 6 cX6_reverse M post) {X : ST} {p1 : Int32} {p2 : Int32} (h : wp_Told_reverse X p1 p2 post) : Jw κ g 6 X M [(0, .ref (g.2.1 4)), (1, .int p1), (2, .int p2)] 0 [] := by
  unfold wp_Told_reverse at h
  refine j_iload_n (pc' := 1) hκ 1 rfl rfl dX6_reverse_0 rfl ?_
  refine j_istore_n (pc' := 2) (lv' := [(3, .int p1), (0, .ref (g.2.1 4)), (1, .int p1), (2, .int p2)]) hκ (Nat.le_of_ble_eq_true rfl) rfl rfl dX6_reverse_1 rfl ?_
  refine j_iload_n (pc' := 3) hκ 3 rfl rfl dX6_reverse_2 rfl ?_
  refine j_istore (pc' := 5) (lv' := [(4, .int p2), (3, .int p1), (0, .ref (g.2.1 4)), (1, .int p1), (2, .int p2)]) hκ (Nat.le_of_ble_eq_true rfl) rfl dX6_reverse_3 rfl ?_
  obtain ⟨n, h⟩ := h
  refine j_sub [2, 1, 0] rfl ?_
  refine lb_Told_reverse_5 hκ hR ?_ n _ _ _  h
  intro X4  h
  exact hR _ _ _ dX6_reverse_50 h
theorem c_Told_reverse {g : Gx} (hg : Dg g) {X M : ST} {p1 : Int32} {p2 : Int32} {post : ST → Prop} (h : wp_Told_reverse X p1 p2 post) (l : Launch) : Met l yX6_reverse wq_X6_reverse rm_Told_reverse (va_Pc [.ref (g.2.1 4), .int p1, .int p2] (PU g X M)) (va_Qv post (fun Y t => va_P g.1 vwCl (ww g Y M) t.heap) (wA g)) 0 0 (wA g) :=
  met_xv hg (by decide) rfl [.ref (g.2.1 4), .int p1, .int p2] rfl (Nat.le_of_ble_eq_true rfl) (fun κ hκ hR => lb_Told_reverse hκ hR h) l
theorem wm_30_1 : Cond.methodLink RX9 275 yX6_reverse ∈ wAll := inr_30 (List.mem_of_getElem? (i := 1) rfl)
theorem wm_30_2 : Cond.instanceMethod yX6_reverse ∈ wAll := inr_30 (List.mem_of_getElem? (i := 2) rfl)
theorem wm_30_3 : Cond.selects RX6 yX6_reverse yX6_reverse ∈ wAll := inr_30 (List.mem_of_getElem? (i := 3) rfl)
theorem wm_30_4 : Cond.code yX6_reverse cX6_reverse 6 none ∈ wAll := inr_30 (List.mem_of_getElem? (i := 4) rfl)
theorem hqV_X6_reverse : yX6_reverse.cls = RX6 ∧ yX6_reverse.cls ≠ "java/lang/invoke/MethodHandle" ∧ yX6_reverse.cls ≠ "java/lang/invoke/VarHandle" ∧ (parseMethodDescriptor yX6_reverse.desc).map (fun d => d.parameters.length) = some 2 := by decide +kernel
abbrev rm_LR_turn : Room := { frames := 3, cells := 0, slots := 0, locals := 60 }
def wp_LR_turn (X : ST) (p1 : Int32) (p2 : Int32) (post : Int32 → ST → Prop) : Prop :=
  wp_Told_isWhole X (fun r2 X1 => (¬ r2 = 0 → ((p1 < 0 → (post (-1) X1)) ∧ (¬ p1 < 0 → ((p2 ≤ p1 → (post (-1) X1)) ∧ (¬ p2 ≤ p1 → ((p2 < (x_Told_count X1) → (wp_Told_reverse X1 (p1 + 1) p2 (fun X3 => post 1 X3))) ∧ (¬ p2 < (x_Told_count X1) → (post (-1) X1)))))))) ∧ (r2 = 0 → (post (-4) X1)))
set_option maxHeartbeats 4000000 in
set_option maxRecDepth 100000 in
theorem lb_LR_turn {κ : Cx} {g : Gx} {M : ST} (hκ : CF κ g RX9 cX9_turn wq_X9_turn 3 rm_LR_turn) {post : Int32 → ST → Prop} (hR : RtxI κ g 3 cX9_turn M post) {X : ST} {p1 : Int32} {p2 : Int32} (h : wp_LR_turn X p1 p2 post) : Jw κ g 3 X M [(0, .ref (g.2.1 0)), (1, .int p1), (2, .int p2)] 0 [] := by
  unfold wp_LR_turn at h
  refine j_aload_n (pc' := 1) hκ 0 rfl rfl dX9_turn_0 rfl ?_
  refine jg_0_3 (pc' := 4) hκ (mi inlX9) (fl_in hκ (mc wm_2_4)) dX9_turn_1 rfl ?_
  refine jx_callVi (pc' := 7) hκ (c_Told_isWhole (dg hκ) h) rfl rfl rfl (gV wm_25_15 wm_25_16 wm_25_17 wm_2_3 wm_25_18) hqV_X6_isWhole ⟨Nat.le_of_ble_eq_true rfl, Nat.le_of_ble_eq_true rfl⟩ (wg_4 g _ _) rfl rfl rfl (Nat.le_of_ble_eq_true rfl) dX9_turn_4 rfl (fun r2 X1 h => ?_)
  refine j_if_ne (tgt := 13) (pc' := 10) hκ dX9_turn_7 (by decide) rfl (fun c => ?_) (fun c => ?_)
  · replace h := h.1 c
    refine j_iload_n (pc' := 14) hκ 1 rfl rfl dX9_turn_13 rfl ?_
    refine j_if_lt (tgt := 33) (pc' := 17) hκ dX9_turn_14 (by decide) rfl (fun c => ?_) (fun c => ?_)
    · replace h := h.1 c
      refine j_iconst (pc' := 34) (v := (-1)) hκ (by decide) dX9_turn_33 rfl ?_
      exact hR _ _ _ _ dX9_turn_34 h
    · replace h := h.2 c
      refine j_iload_n (pc' := 18) hκ 2 rfl rfl dX9_turn_17 rfl ?_
      refine j_iload_n (pc' := 19) hκ 1 rfl rfl dX9_turn_18 rfl ?_
      refine j_icmp_le (tgt := 33) (pc' := 22) hκ dX9_turn_19 (by decide) rfl (fun c => ?_) (fun c => ?_)
      · replace h := h.1 c
        refine j_iconst (pc' := 34) (v := (-1)) hκ (by decide) dX9_turn_33 rfl ?_
        exact hR _ _ _ _ dX9_turn_34 h
      · replace h := h.2 c
        refine j_iload_n (pc' := 23) hκ 2 rfl rfl dX9_turn_22 rfl ?_
        refine j_aload_n (pc' := 24) hκ 0 rfl rfl dX9_turn_23 rfl ?_
        refine jg_0_3 (pc' := 27) hκ (mi inlX9) (fl_in hκ (mc wm_2_4)) dX9_turn_24 rfl ?_
        refine jg_4_2 (pc' := 30) hκ (mi inlX6) (fl_ne hκ 14 rfl) dX9_turn_27 rfl ?_
        refine j_icmp_lt (tgt := 35) (pc' := 33) hκ dX9_turn_30 (by decide) rfl (fun c => ?_) (fun c => ?_)
        · replace h := h.1 c
          refine j_aload_n (pc' := 36) hκ 0 rfl rfl dX9_turn_35 rfl ?_
          refine jg_0_3 (pc' := 39) hκ (mi inlX9) (fl_in hκ (mc wm_2_4)) dX9_turn_36 rfl ?_
          refine j_iload_n (pc' := 40) hκ 1 rfl rfl dX9_turn_39 rfl ?_
          refine j_iconst (pc' := 41) (v := 1) hκ (by decide) dX9_turn_40 rfl ?_
          refine j_iadd (pc' := 42) hκ dX9_turn_41 rfl ?_
          refine j_iload_n (pc' := 43) hκ 2 rfl rfl dX9_turn_42 rfl ?_
          refine jx_callVv (pc' := 46) hκ (c_Told_reverse (dg hκ) h) rfl rfl rfl (gV wm_30_1 wm_30_2 wm_30_3 wm_2_3 wm_30_4) hqV_X6_reverse ⟨Nat.le_of_ble_eq_true rfl, Nat.le_of_ble_eq_true rfl⟩ (wg_4 g _ _) rfl rfl rfl (Nat.le_of_ble_eq_true rfl) dX9_turn_43 rfl (fun X3 h => ?_)
          refine j_iconst (pc' := 47) (v := 1) hκ (by decide) dX9_turn_46 rfl ?_
          exact hR _ _ _ _ dX9_turn_47 h
        · replace h := h.2 c
          refine j_iconst (pc' := 34) (v := (-1)) hκ (by decide) dX9_turn_33 rfl ?_
          exact hR _ _ _ _ dX9_turn_34 h
  · replace h := h.2 c
    refine j_bipush (pc' := 12) (v := (-4)) hκ (by decide) dX9_turn_10 rfl ?_
    exact hR _ _ _ _ dX9_turn_12 h
theorem c_LR_turn {g : Gx} (hg : Dg g) {X M : ST} {p1 : Int32} {p2 : Int32} {post : Int32 → ST → Prop} (h : wp_LR_turn X p1 p2 post) (l : Launch) : Met l yX9_turn wq_X9_turn rm_LR_turn (va_Pc [.ref (g.2.1 0), .int p1, .int p2] (PU g X M)) (va_Qi post (fun Y t => va_P g.1 vwCl (ww g Y M) t.heap) (wA g)) 0 0 (wA g) :=
  met_xi hg (by decide) rfl [.ref (g.2.1 0), .int p1, .int p2] rfl (Nat.le_of_ble_eq_true rfl) (fun κ hκ hR => lb_LR_turn hκ hR h) l
theorem wm_30_21 : Cond.methodLink RX6 52 yX6_keepsTwins ∈ wAll := inr_30 (List.mem_of_getElem? (i := 21) rfl)
abbrev rm_Told_isShorterTurned : Room := { frames := 1, cells := 0, slots := 0, locals := 21 }
def wp_Told_isShorterTurned (X : ST) (p1 : Int32) (p2 : Int32) (post : Int32 → ST → Prop) : Prop :=
  vp_in p1 12 ∧ (∀ v1 : Int32, v1 = x_Told_order X p1.toNatClampNeg → vp_in (p1 + 1) 12 ∧ (∀ v2 : Int32, v2 = x_Told_order X (p1 + 1).toNatClampNeg → vp_in p2 12 ∧ (∀ v3 : Int32, v3 = x_Told_order X p2.toNatClampNeg → wp_Told_after X p2 (fun r5 X4 => vp_in r5 12 ∧ (∀ v6 : Int32, v6 = x_Told_order X4 r5.toNatClampNeg → vp_in v1 12 ∧ (vp_in v3 12 ∧ (vp_in v2 12 ∧ (vp_in v6 12 ∧ (vp_in v1 12 ∧ (vp_in v2 12 ∧ (vp_in v3 12 ∧ (vp_in v6 12 ∧ ((((x_gaps X4 (v1.toNatClampNeg) v2.toNatClampNeg) + (x_gaps X4 (v3.toNatClampNeg) v6.toNatClampNeg)) ≤ ((x_gaps X4 (v1.toNatClampNeg) v3.toNatClampNeg) + (x_gaps X4 (v2.toNatClampNeg) v6.toNatClampNeg)) → (post 0 X4)) ∧ (¬ ((x_gaps X4 (v1.toNatClampNeg) v2.toNatClampNeg) + (x_gaps X4 (v3.toNatClampNeg) v6.toNatClampNeg)) ≤ ((x_gaps X4 (v1.toNatClampNeg) v3.toNatClampNeg) + (x_gaps X4 (v2.toNatClampNeg) v6.toNatClampNeg)) → (post 1 X4)))))))))))))))
set_option maxHeartbeats 4000000 in
set_option maxRecDepth 100000 in
theorem lb_Told_isShorterTurned {κ : Cx} {g : Gx} {M : ST} (hκ : CF κ g RX6 cX6_isShorterTurned wq_X6_isShorterTurned 7 rm_Told_isShorterTurned) {post : Int32 → ST → Prop} (hR : RtxZ κ g 7 cX6_isShorterTurned M post) {X : ST} {p1 : Int32} {p2 : Int32} (h : wp_Told_isShorterTurned X p1 p2 post) : Jw κ g 7 X M [(0, .ref (g.2.1 4)), (1, .int p1), (2, .int p2)] 0 [] := by
  unfold wp_Told_isShorterTurned at h
  refine j_aload_n (pc' := 1) hκ 0 rfl rfl dX6_isShorterTurned_0 rfl ?_
  refine jg_4_1 (pc' := 4) hκ (mi inlX6) (fl_in hκ (mc wm_5_0)) dX6_isShorterTurned_1 rfl ?_
  refine j_iload_n (pc' := 5) hκ 1 rfl rfl dX6_isShorterTurned_4 rfl ?_
  refine jx_iald (pc' := 6) hκ (ah_27 g) h.1 dX6_isShorterTurned_5 rfl ?_
  replace h := h.2
  refine j_topi (fun v1 ev1 => ?_)
  replace h := h v1 ev1
  refine j_istore_n (pc' := 7) (lv' := [(3, .int v1), (0, .ref (g.2.1 4)), (1, .int p1), (2, .int p2)]) hκ (Nat.le_of_ble_eq_true rfl) rfl rfl dX6_isShorterTurned_6 rfl ?_
  refine j_aload_n (pc' := 8) hκ 1 rfl rfl dX6_isShorterTurned_7 rfl ?_
  refine jg_4_1 (pc' := 11) hκ (mi inlX6) (fl_in hκ (mc wm_5_0)) dX6_isShorterTurned_8 rfl ?_
  refine j_iload_n (pc' := 12) hκ 2 rfl rfl dX6_isShorterTurned_11 rfl ?_
  refine j_iconst (pc' := 13) (v := 1) hκ (by decide) dX6_isShorterTurned_12 rfl ?_
  refine j_iadd (pc' := 14) hκ dX6_isShorterTurned_13 rfl ?_
  refine jx_iald (pc' := 15) hκ (ah_27 g) h.1 dX6_isShorterTurned_14 rfl ?_
  replace h := h.2
  refine j_topi (fun v2 ev2 => ?_)
  replace h := h v2 ev2
  refine j_istore (pc' := 17) (lv' := [(4, .int v2), (3, .int v1), (0, .ref (g.2.1 4)), (1, .int p1), (2, .int p2)]) hκ (Nat.le_of_ble_eq_true rfl) rfl dX6_isShorterTurned_15 rfl ?_
  refine j_aload_n (pc' := 18) hκ 2 rfl rfl dX6_isShorterTurned_17 rfl ?_
  refine jg_4_1 (pc' := 21) hκ (mi inlX6) (fl_in hκ (mc wm_5_0)) dX6_isShorterTurned_18 rfl ?_
  refine j_iload_n (pc' := 22) hκ 4 rfl rfl dX6_isShorterTurned_21 rfl ?_
  refine jx_iald (pc' := 23) hκ (ah_27 g) h.1 dX6_isShorterTurned_22 rfl ?_
  replace h := h.2
  refine j_topi (fun v3 ev3 => ?_)
  replace h := h v3 ev3
  refine j_istore (pc' := 25) (lv' := [(5, .int v3), (4, .int v2), (3, .int v1), (0, .ref (g.2.1 4)), (1, .int p1), (2, .int p2)]) hκ (Nat.le_of_ble_eq_true rfl) rfl dX6_isShorterTurned_23 rfl ?_
  refine j_aload_n (pc' := 26) hκ 3 rfl rfl dX6_isShorterTurned_25 rfl ?_
  refine jg_4_1 (pc' := 29) hκ (mi inlX6) (fl_in hκ (mc wm_5_0)) dX6_isShorterTurned_26 rfl ?_
  refine j_aload_n (pc' := 30) hκ 3 rfl rfl dX6_isShorterTurned_29 rfl ?_
  refine j_iload_n (pc' := 31) hκ 5 rfl rfl dX6_isShorterTurned_30 rfl ?_
  refine jx_callVi (pc' := 34) hκ (c_Told_after (dg hκ) h) rfl rfl rfl (gV wm_26_0 wm_26_1 wm_26_2 wm_2_3 wm_26_3) hqV_X6_after ⟨Nat.le_of_ble_eq_true rfl, Nat.le_of_ble_eq_true rfl⟩ (wg_4 g _ _) rfl rfl rfl (Nat.le_of_ble_eq_true rfl) dX6_isShorterTurned_31 rfl (fun r5 X4 h => ?_)
  refine jx_iald (pc' := 35) hκ (ah_27 g) h.1 dX6_isShorterTurned_34 rfl ?_
  replace h := h.2
  refine j_topi (fun v6 ev6 => ?_)
  replace h := h v6 ev6
  refine j_istore (pc' := 37) (lv' := [(6, .int v6), (5, .int v3), (4, .int v2), (3, .int v1), (0, .ref (g.2.1 4)), (1, .int p1), (2, .int p2)]) hκ (Nat.le_of_ble_eq_true rfl) rfl dX6_isShorterTurned_35 rfl ?_
  refine j_aload_n (pc' := 38) hκ 4 rfl rfl dX6_isShorterTurned_37 rfl ?_
  refine jg_4_0 (pc' := 41) hκ (mi inlX6) (fl_in hκ (mc wm_5_2)) dX6_isShorterTurned_38 rfl ?_
  refine jg_3_7 (pc' := 44) hκ (mi inlX2) (fl_ne hκ 42 rfl) dX6_isShorterTurned_41 rfl ?_
  refine j_iload_n (pc' := 45) hκ 3 rfl rfl dX6_isShorterTurned_44 rfl ?_
  refine j_aald (pc' := 46) (q := 26) (t := 3) hκ (wg_26 g _ _) rfl h.1 dX6_isShorterTurned_45 rfl ?_
  have hr7 : v1.toNatClampNeg < 12 := Nat.not_le.mp fun q => h.1 (Or.inr q)
  replace h := h.2
  refine j_iload (pc' := 48) hκ 1 rfl dX6_isShorterTurned_46 rfl ?_
  refine jx_iald (pc' := 49) hκ (ah_gaps g hr7) h.1 dX6_isShorterTurned_48 rfl ?_
  replace h := h.2
  refine j_aload_n (pc' := 50) hκ 4 rfl rfl dX6_isShorterTurned_49 rfl ?_
  refine jg_4_0 (pc' := 53) hκ (mi inlX6) (fl_in hκ (mc wm_5_2)) dX6_isShorterTurned_50 rfl ?_
  refine jg_3_7 (pc' := 56) hκ (mi inlX2) (fl_ne hκ 42 rfl) dX6_isShorterTurned_53 rfl ?_
  refine j_iload (pc' := 58) hκ 2 rfl dX6_isShorterTurned_56 rfl ?_
  refine j_aald (pc' := 59) (q := 26) (t := 3) hκ (wg_26 g _ _) rfl h.1 dX6_isShorterTurned_58 rfl ?_
  have hr8 : v2.toNatClampNeg < 12 := Nat.not_le.mp fun q => h.1 (Or.inr q)
  replace h := h.2
  refine j_iload (pc' := 61) hκ 0 rfl dX6_isShorterTurned_59 rfl ?_
  refine jx_iald (pc' := 62) hκ (ah_gaps g hr8) h.1 dX6_isShorterTurned_61 rfl ?_
  replace h := h.2
  refine j_iadd (pc' := 63) hκ dX6_isShorterTurned_62 rfl ?_
  refine j_aload_n (pc' := 64) hκ 4 rfl rfl dX6_isShorterTurned_63 rfl ?_
  refine jg_4_0 (pc' := 67) hκ (mi inlX6) (fl_in hκ (mc wm_5_2)) dX6_isShorterTurned_64 rfl ?_
  refine jg_3_7 (pc' := 70) hκ (mi inlX2) (fl_ne hκ 42 rfl) dX6_isShorterTurned_67 rfl ?_
  refine j_iload_n (pc' := 71) hκ 3 rfl rfl dX6_isShorterTurned_70 rfl ?_
  refine j_aald (pc' := 72) (q := 26) (t := 3) hκ (wg_26 g _ _) rfl h.1 dX6_isShorterTurned_71 rfl ?_
  have hr9 : v1.toNatClampNeg < 12 := Nat.not_le.mp fun q => h.1 (Or.inr q)
  replace h := h.2
  refine j_iload (pc' := 74) hκ 2 rfl dX6_isShorterTurned_72 rfl ?_
  refine jx_iald (pc' := 75) hκ (ah_gaps g hr9) h.1 dX6_isShorterTurned_74 rfl ?_
  replace h := h.2
  refine j_aload_n (pc' := 76) hκ 4 rfl rfl dX6_isShorterTurned_75 rfl ?_
  refine jg_4_0 (pc' := 79) hκ (mi inlX6) (fl_in hκ (mc wm_5_2)) dX6_isShorterTurned_76 rfl ?_
  refine jg_3_7 (pc' := 82) hκ (mi inlX2) (fl_ne hκ 42 rfl) dX6_isShorterTurned_79 rfl ?_
  refine j_iload (pc' := 84) hκ 1 rfl dX6_isShorterTurned_82 rfl ?_
  refine j_aald (pc' := 85) (q := 26) (t := 3) hκ (wg_26 g _ _) rfl h.1 dX6_isShorterTurned_84 rfl ?_
  have hr10 : v3.toNatClampNeg < 12 := Nat.not_le.mp fun q => h.1 (Or.inr q)
  replace h := h.2
  refine j_iload (pc' := 87) hκ 0 rfl dX6_isShorterTurned_85 rfl ?_
  refine jx_iald (pc' := 88) hκ (ah_gaps g hr10) h.1 dX6_isShorterTurned_87 rfl ?_
  replace h := h.2
  refine j_iadd (pc' := 89) hκ dX6_isShorterTurned_88 rfl ?_
  refine j_icmp_ge (tgt := 96) (pc' := 92) hκ dX6_isShorterTurned_89 (by decide) rfl (fun c => ?_) (fun c => ?_)
  · replace h := h.1 c
    refine j_iconst (pc' := 97) (v := 0) hκ (by decide) dX6_isShorterTurned_96 rfl ?_
    exact hR _ _ _ _ dX6_isShorterTurned_97 (Or.inl rfl) h
  · replace h := h.2 c
    refine j_iconst (pc' := 93) (v := 1) hκ (by decide) dX6_isShorterTurned_92 rfl ?_
    refine j_goto (pc' := 97) hκ (by decide) dX6_isShorterTurned_93 ?_
    exact hR _ _ _ _ dX6_isShorterTurned_97 (Or.inr rfl) h
theorem c_Told_isShorterTurned {g : Gx} (hg : Dg g) {X M : ST} {p1 : Int32} {p2 : Int32} {post : Int32 → ST → Prop} (h : wp_Told_isShorterTurned X p1 p2 post) (l : Launch) : Met l yX6_isShorterTurned wq_X6_isShorterTurned rm_Told_isShorterTurned (va_Pc [.ref (g.2.1 4), .int p1, .int p2] (PU g X M)) (va_Qi post (fun Y t => va_P g.1 vwCl (ww g Y M) t.heap) (wA g)) 0 0 (wA g) :=
  met_xz hg (by decide) rfl [.ref (g.2.1 4), .int p1, .int p2] rfl (Nat.le_of_ble_eq_true rfl) (fun κ hκ hR => lb_Told_isShorterTurned hκ hR h) l
theorem wm_30_22 : Cond.methodLink RX6 56 yX6_isShorterTurned ∈ wAll := inr_30 (List.mem_of_getElem? (i := 22) rfl)
theorem wm_30_23 : Cond.instanceMethod yX6_isShorterTurned ∈ wAll := inr_30 (List.mem_of_getElem? (i := 23) rfl)
theorem wm_31_0 : Cond.selects RX6 yX6_isShorterTurned yX6_isShorterTurned ∈ wAll := inr_31 (List.mem_of_getElem? (i := 0) rfl)
theorem wm_31_1 : Cond.code yX6_isShorterTurned cX6_isShorterTurned 7 (some .boolean) ∈ wAll := inr_31 (List.mem_of_getElem? (i := 1) rfl)
theorem hqV_X6_isShorterTurned : yX6_isShorterTurned.cls = RX6 ∧ yX6_isShorterTurned.cls ≠ "java/lang/invoke/MethodHandle" ∧ yX6_isShorterTurned.cls ≠ "java/lang/invoke/VarHandle" ∧ (parseMethodDescriptor yX6_isShorterTurned.desc).map (fun d => d.parameters.length) = some 2 := by decide +kernel
theorem wm_31_2 : Cond.methodLink RX6 60 yX6_reverse ∈ wAll := inr_31 (List.mem_of_getElem? (i := 2) rfl)
abbrev rm_Told_turnFirstShorter : Room := { frames := 5, cells := 0, slots := 0, locals := 115 }
def wp_Told_turnFirstShorter_19_s (K55 : ST → Prop) (K71 : ST → Int32 → Int32 → Prop) (post : Int32 → ST → Prop) (rec : ST → Int32 → Int32 → Int32 → Prop) (X : ST) (l1 : Int32) (l2 : Int32) (l3 : Int32) : Prop :=
  ((x_Told_count X) ≤ l3 → (K71 X l1 l2)) ∧ (¬ (x_Told_count X) ≤ l3 → (wp_Told_isShorterTurned X l2 l3 (fun r5 X4 => (r5 = 0 → (rec X4 l1 l2 (l3 + 1))) ∧ (¬ r5 = 0 → (wp_Told_reverse X4 (l2 + 1) l3 (fun X6 => (l1 = 0 → (K55 X6)) ∧ (¬ l1 = 0 → (wp_Told_keepsTwins X6 (fun r9 X8 => (r9 = 0 → (wp_Told_reverse X8 (l2 + 1) l3 (fun X10 => rec X10 l1 l2 (l3 + 1)))) ∧ (¬ r9 = 0 → (K55 X8)))))))))))
def wp_Told_turnFirstShorter_19 (K55 : ST → Prop) (K71 : ST → Int32 → Int32 → Prop) (post : Int32 → ST → Prop) : Nat → ST → Int32 → Int32 → Int32 → Prop
  | 0 => fun _ _ _ _ => False
  | n + 1 => wp_Told_turnFirstShorter_19_s K55 K71 post (wp_Told_turnFirstShorter_19 K55 K71 post n)
set_option maxHeartbeats 4000000 in
set_option maxRecDepth 100000 in
theorem lb_Told_turnFirstShorter_19 {κ : Cx} {g : Gx} {M : ST} (hκ : CF κ g RX6 cX6_turnFirstShorter wq_X6_turnFirstShorter 4 rm_Told_turnFirstShorter) {post : Int32 → ST → Prop} (hR : RtxZ κ g 4 cX6_turnFirstShorter M post) {K55 : ST → Prop} {K71 : ST → Int32 → Int32 → Prop} (hK55 : ∀ (X : ST), K55 X → Jw κ g 4 X M [] 55 []) (hK71 : ∀ (X : ST) (l1 : Int32) (l2 : Int32), K71 X l1 l2 → Jw κ g 4 X M [(0, .ref (g.2.1 4)), (1, .int l1), (2, .int l2)] 71 []) : ∀ (n : Nat) (X : ST) (l1 : Int32) (l2 : Int32) (l3 : Int32), wp_Told_turnFirstShorter_19 K55 K71 post n X l1 l2 l3 → Jw κ g 4 X M [(0, .ref (g.2.1 4)), (1, .int l1), (2, .int l2), (3, .int l3)] 19 [] := by
  intro n
  induction n with
  | zero =>
    intro X l1 l2 l3  h
    exact h.elim
  | succ n ih =>
    intro X l1 l2 l3  h
    have h : wp_Told_turnFirstShorter_19_s K55 K71 post (wp_Told_turnFirstShorter_19 K55 K71 post n) X l1 l2 l3 := h
    unfold wp_Told_turnFirstShorter_19_s at h
    refine j_iload_n (pc' := 20) hκ 3 rfl rfl dX6_turnFirstShorter_19 rfl ?_
    refine j_aload_n (pc' := 21) hκ 0 rfl rfl dX6_turnFirstShorter_20 rfl ?_
    refine jg_4_2 (pc' := 24) hκ (mi inlX6) (fl_in hκ (mc wm_5_1)) dX6_turnFirstShorter_21 rfl ?_
    refine j_icmp_ge (tgt := 71) (pc' := 27) hκ dX6_turnFirstShorter_24 (by decide) rfl (fun c => ?_) (fun c => ?_)
    · replace h := h.1 c
      refine j_sub [0, 1, 2] rfl ?_
      exact hK71 _ _ _  h
    · replace h := h.2 c
      refine j_aload_n (pc' := 28) hκ 0 rfl rfl dX6_turnFirstShorter_27 rfl ?_
      refine j_iload_n (pc' := 29) hκ 2 rfl rfl dX6_turnFirstShorter_28 rfl ?_
      refine j_iload_n (pc' := 30) hκ 3 rfl rfl dX6_turnFirstShorter_29 rfl ?_
      refine jx_callVi (pc' := 33) hκ (c_Told_isShorterTurned (dg hκ) h) rfl rfl rfl (gV wm_30_22 wm_30_23 wm_31_0 wm_2_3 wm_31_1) hqV_X6_isShorterTurned ⟨Nat.le_of_ble_eq_true rfl, Nat.le_of_ble_eq_true rfl⟩ (wg_4 g _ _) rfl rfl rfl (Nat.le_of_ble_eq_true rfl) dX6_turnFirstShorter_30 rfl (fun r5 X4 h => ?_)
      refine j_if_eq (tgt := 65) (pc' := 36) hκ dX6_turnFirstShorter_33 (by decide) rfl (fun c => ?_) (fun c => ?_)
      · replace h := h.1 c
        refine j_iinc (pc' := 68) (v := l3 + 1) (lv' := [(3, .int (l3 + 1)), (0, .ref (g.2.1 4)), (1, .int l1), (2, .int l2)]) hκ 3 rfl rfl (Nat.le_of_ble_eq_true rfl) rfl dX6_turnFirstShorter_65 rfl ?_
        refine j_goto (pc' := 19) hκ (by decide) dX6_turnFirstShorter_68 ?_
        refine j_sub [1, 2, 3, 0] rfl ?_
        exact ih _ _ _ _  h
      · replace h := h.2 c
        refine j_aload_n (pc' := 37) hκ 0 rfl rfl dX6_turnFirstShorter_36 rfl ?_
        refine j_iload_n (pc' := 38) hκ 2 rfl rfl dX6_turnFirstShorter_37 rfl ?_
        refine j_iconst (pc' := 39) (v := 1) hκ (by decide) dX6_turnFirstShorter_38 rfl ?_
        refine j_iadd (pc' := 40) hκ dX6_turnFirstShorter_39 rfl ?_
        refine j_iload_n (pc' := 41) hκ 3 rfl rfl dX6_turnFirstShorter_40 rfl ?_
        refine jx_callVv (pc' := 44) hκ (c_Told_reverse (dg hκ) h) rfl rfl rfl (gV wm_31_2 wm_30_2 wm_30_3 wm_2_3 wm_30_4) hqV_X6_reverse ⟨Nat.le_of_ble_eq_true rfl, Nat.le_of_ble_eq_true rfl⟩ (wg_4 g _ _) rfl rfl rfl (Nat.le_of_ble_eq_true rfl) dX6_turnFirstShorter_41 rfl (fun X6 h => ?_)
        refine j_iload_n (pc' := 45) hκ 1 rfl rfl dX6_turnFirstShorter_44 rfl ?_
        refine j_if_eq (tgt := 55) (pc' := 48) hκ dX6_turnFirstShorter_45 (by decide) rfl (fun c => ?_) (fun c => ?_)
        · replace h := h.1 c
          refine j_sub [] rfl ?_
          exact hK55 _  h
        · replace h := h.2 c
          refine j_aload_n (pc' := 49) hκ 0 rfl rfl dX6_turnFirstShorter_48 rfl ?_
          refine jx_callVi (pc' := 52) hκ (c_Told_keepsTwins (dg hκ) h) rfl rfl rfl (gV wm_30_21 wm_29_14 wm_29_15 wm_2_3 wm_29_16) hqV_X6_keepsTwins ⟨Nat.le_of_ble_eq_true rfl, Nat.le_of_ble_eq_true rfl⟩ (wg_4 g _ _) rfl rfl rfl (Nat.le_of_ble_eq_true rfl) dX6_turnFirstShorter_49 rfl (fun r9 X8 h => ?_)
          refine j_if_eq (tgt := 57) (pc' := 55) hκ dX6_turnFirstShorter_52 (by decide) rfl (fun c => ?_) (fun c => ?_)
          · replace h := h.1 c
            refine j_aload_n (pc' := 58) hκ 0 rfl rfl dX6_turnFirstShorter_57 rfl ?_
            refine j_iload_n (pc' := 59) hκ 2 rfl rfl dX6_turnFirstShorter_58 rfl ?_
            refine j_iconst (pc' := 60) (v := 1) hκ (by decide) dX6_turnFirstShorter_59 rfl ?_
            refine j_iadd (pc' := 61) hκ dX6_turnFirstShorter_60 rfl ?_
            refine j_iload_n (pc' := 62) hκ 3 rfl rfl dX6_turnFirstShorter_61 rfl ?_
            refine jx_callVv (pc' := 65) hκ (c_Told_reverse (dg hκ) h) rfl rfl rfl (gV wm_31_2 wm_30_2 wm_30_3 wm_2_3 wm_30_4) hqV_X6_reverse ⟨Nat.le_of_ble_eq_true rfl, Nat.le_of_ble_eq_true rfl⟩ (wg_4 g _ _) rfl rfl rfl (Nat.le_of_ble_eq_true rfl) dX6_turnFirstShorter_62 rfl (fun X10 h => ?_)
            refine j_iinc (pc' := 68) (v := l3 + 1) (lv' := [(3, .int (l3 + 1)), (0, .ref (g.2.1 4)), (1, .int l1), (2, .int l2)]) hκ 3 rfl rfl (Nat.le_of_ble_eq_true rfl) rfl dX6_turnFirstShorter_65 rfl ?_
            refine j_goto (pc' := 19) hκ (by decide) dX6_turnFirstShorter_68 ?_
            refine j_sub [1, 2, 3, 0] rfl ?_
            exact ih _ _ _ _  h
          · replace h := h.2 c
            refine j_sub [] rfl ?_
            exact hK55 _  h
def wp_Told_turnFirstShorter_7_s (K55 : ST → Prop) (K77 : ST → Prop) (post : Int32 → ST → Prop) (rec : ST → Int32 → Int32 → Prop) (X : ST) (l1 : Int32) (l2 : Int32) : Prop :=
  ((x_Told_count X) ≤ l2 → (K77 X)) ∧ (¬ (x_Told_count X) ≤ l2 → (∀ v3 : Int32, v3 = l2 + 1 → ∃ n, wp_Told_turnFirstShorter_19 K55 (fun X12 v13 v14 => rec X12 v13 (v14 + 1)) post n X l1 l2 v3))
def wp_Told_turnFirstShorter_7 (K55 : ST → Prop) (K77 : ST → Prop) (post : Int32 → ST → Prop) : Nat → ST → Int32 → Int32 → Prop
  | 0 => fun _ _ _ => False
  | n + 1 => wp_Told_turnFirstShorter_7_s K55 K77 post (wp_Told_turnFirstShorter_7 K55 K77 post n)
set_option maxHeartbeats 4000000 in
set_option maxRecDepth 100000 in
theorem lb_Told_turnFirstShorter_7 {κ : Cx} {g : Gx} {M : ST} (hκ : CF κ g RX6 cX6_turnFirstShorter wq_X6_turnFirstShorter 4 rm_Told_turnFirstShorter) {post : Int32 → ST → Prop} (hR : RtxZ κ g 4 cX6_turnFirstShorter M post) {K55 : ST → Prop} {K77 : ST → Prop} (hK55 : ∀ (X : ST), K55 X → Jw κ g 4 X M [] 55 []) (hK77 : ∀ (X : ST), K77 X → Jw κ g 4 X M [] 77 []) : ∀ (n : Nat) (X : ST) (l1 : Int32) (l2 : Int32), wp_Told_turnFirstShorter_7 K55 K77 post n X l1 l2 → Jw κ g 4 X M [(0, .ref (g.2.1 4)), (1, .int l1), (2, .int l2)] 7 [] := by
  intro n
  induction n with
  | zero =>
    intro X l1 l2  h
    exact h.elim
  | succ n ih =>
    intro X l1 l2  h
    have h : wp_Told_turnFirstShorter_7_s K55 K77 post (wp_Told_turnFirstShorter_7 K55 K77 post n) X l1 l2 := h
    unfold wp_Told_turnFirstShorter_7_s at h
    refine j_iload_n (pc' := 8) hκ 2 rfl rfl dX6_turnFirstShorter_7 rfl ?_
    refine j_aload_n (pc' := 9) hκ 0 rfl rfl dX6_turnFirstShorter_8 rfl ?_
    refine jg_4_2 (pc' := 12) hκ (mi inlX6) (fl_in hκ (mc wm_5_1)) dX6_turnFirstShorter_9 rfl ?_
    refine j_icmp_ge (tgt := 77) (pc' := 15) hκ dX6_turnFirstShorter_12 (by decide) rfl (fun c => ?_) (fun c => ?_)
    · replace h := h.1 c
      refine j_sub [] rfl ?_
      exact hK77 _  h
    · replace h := h.2 c
      refine j_iload_n (pc' := 16) hκ 2 rfl rfl dX6_turnFirstShorter_15 rfl ?_
      refine j_iconst (pc' := 17) (v := 1) hκ (by decide) dX6_turnFirstShorter_16 rfl ?_
      refine j_iadd (pc' := 18) hκ dX6_turnFirstShorter_17 rfl ?_
      refine j_topi (fun v3 ev3 => ?_)
      replace h := h v3 ev3
      refine j_istore_n (pc' := 19) (lv' := [(3, .int v3), (0, .ref (g.2.1 4)), (1, .int l1), (2, .int l2)]) hκ (Nat.le_of_ble_eq_true rfl) rfl rfl dX6_turnFirstShorter_18 rfl ?_
      obtain ⟨n, h⟩ := h
      refine j_sub [1, 2, 3, 0] rfl ?_
      refine lb_Told_turnFirstShorter_19 hκ hR hK55 ?_ n _ _ _ _  h
      intro X12 v13 v14  h
      refine j_iinc (pc' := 74) (v := v14 + 1) (lv' := [(2, .int (v14 + 1)), (0, .ref (g.2.1 4)), (1, .int v13)]) hκ 2 rfl rfl (Nat.le_of_ble_eq_true rfl) rfl dX6_turnFirstShorter_71 rfl ?_
      refine j_goto (pc' := 7) hκ (by decide) dX6_turnFirstShorter_74 ?_
      refine j_sub [1, 2, 0] rfl ?_
      exact ih _ _ _  h
def wp_Told_turnFirstShorter (X : ST) (post : Int32 → ST → Prop) : Prop :=
  wp_Told_keepsTwins X (fun r2 X1 => ∃ n, wp_Told_turnFirstShorter_7 (fun X15 => post 1 X15) (fun X16 => post 0 X16) post n X1 r2 0)
set_option maxHeartbeats 4000000 in
set_option maxRecDepth 100000 in
theorem lb_Told_turnFirstShorter {κ : Cx} {g : Gx} {M : ST} (hκ : CF κ g RX6 cX6_turnFirstShorter wq_X6_turnFirstShorter 4 rm_Told_turnFirstShorter) {post : Int32 → ST → Prop} (hR : RtxZ κ g 4 cX6_turnFirstShorter M post) {X : ST} (h : wp_Told_turnFirstShorter X post) : Jw κ g 4 X M [(0, .ref (g.2.1 4))] 0 [] := by
  unfold wp_Told_turnFirstShorter at h
  refine j_aload_n (pc' := 1) hκ 0 rfl rfl dX6_turnFirstShorter_0 rfl ?_
  refine jx_callVi (pc' := 4) hκ (c_Told_keepsTwins (dg hκ) h) rfl rfl rfl (gV wm_30_21 wm_29_14 wm_29_15 wm_2_3 wm_29_16) hqV_X6_keepsTwins ⟨Nat.le_of_ble_eq_true rfl, Nat.le_of_ble_eq_true rfl⟩ (wg_4 g _ _) rfl rfl rfl (Nat.le_of_ble_eq_true rfl) dX6_turnFirstShorter_1 rfl (fun r2 X1 h => ?_)
  refine j_istore_n (pc' := 5) (lv' := [(1, .int r2), (0, .ref (g.2.1 4))]) hκ (Nat.le_of_ble_eq_true rfl) rfl rfl dX6_turnFirstShorter_4 rfl ?_
  refine j_iconst (pc' := 6) (v := 0) hκ (by decide) dX6_turnFirstShorter_5 rfl ?_
  refine j_istore_n (pc' := 7) (lv' := [(2, .int 0), (1, .int r2), (0, .ref (g.2.1 4))]) hκ (Nat.le_of_ble_eq_true rfl) rfl rfl dX6_turnFirstShorter_6 rfl ?_
  obtain ⟨n, h⟩ := h
  refine j_sub [2, 1, 0] rfl ?_
  refine lb_Told_turnFirstShorter_7 hκ hR ?_ ?_ n _ _ _  h
  · intro X15  h
    refine j_iconst (pc' := 56) (v := 1) hκ (by decide) dX6_turnFirstShorter_55 rfl ?_
    exact hR _ _ _ _ dX6_turnFirstShorter_56 (Or.inr rfl) h
  · intro X16  h
    refine j_iconst (pc' := 78) (v := 0) hκ (by decide) dX6_turnFirstShorter_77 rfl ?_
    exact hR _ _ _ _ dX6_turnFirstShorter_78 (Or.inl rfl) h
theorem c_Told_turnFirstShorter {g : Gx} (hg : Dg g) {X M : ST} {post : Int32 → ST → Prop} (h : wp_Told_turnFirstShorter X post) (l : Launch) : Met l yX6_turnFirstShorter wq_X6_turnFirstShorter rm_Told_turnFirstShorter (va_Pc [.ref (g.2.1 4)] (PU g X M)) (va_Qi post (fun Y t => va_P g.1 vwCl (ww g Y M) t.heap) (wA g)) 0 0 (wA g) :=
  met_xz hg (by decide) rfl [.ref (g.2.1 4)] rfl (Nat.le_of_ble_eq_true rfl) (fun κ hκ hR => lb_Told_turnFirstShorter hκ hR h) l
