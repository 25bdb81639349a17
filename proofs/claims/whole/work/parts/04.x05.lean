theorem wm_33_16 : Cond.methodLink RX9 302 yX8_grow ∈ wAll := inr_33 (List.mem_of_getElem? (i := 16) rfl)
theorem wm_33_17 : Cond.instanceMethod yX8_grow ∈ wAll := inr_33 (List.mem_of_getElem? (i := 17) rfl)
theorem wm_33_18 : Cond.selects RX8 yX8_grow yX8_grow ∈ wAll := inr_33 (List.mem_of_getElem? (i := 18) rfl)
theorem wm_33_19 : Cond.code yX8_grow cX8_grow 2 none ∈ wAll := inr_33 (List.mem_of_getElem? (i := 19) rfl)
theorem hqV_X8_grow : yX8_grow.cls = RX8 ∧ yX8_grow.cls ≠ "java/lang/invoke/MethodHandle" ∧ yX8_grow.cls ≠ "java/lang/invoke/VarHandle" ∧ (parseMethodDescriptor yX8_grow.desc).map (fun d => d.parameters.length) = some 0 := by decide +kernel
abbrev rm_LR_growEmptyCase : Room := { frames := 5, cells := 0, slots := 0, locals := 113 }
def wp_LR_growEmptyCase (X : ST) (post : ST → Prop) : Prop :=
  wp_LR_beginEmptyCase X (fun X1 => wp_Tree_grow X1 (fun X3 => post X3))
set_option maxHeartbeats 4000000 in
set_option maxRecDepth 100000 in
theorem lb_LR_growEmptyCase {κ : Cx} {g : Gx} {M : ST} (hκ : CF κ g RX9 cX9_growEmptyCase wq_X9_growEmptyCase 1 rm_LR_growEmptyCase) {post : ST → Prop} (hR : RtxV κ g 1 cX9_growEmptyCase M post) {X : ST} (h : wp_LR_growEmptyCase X post) : Jw κ g 1 X M [(0, .ref (g.2.1 0))] 0 [] := by
  unfold wp_LR_growEmptyCase at h
  refine j_aload_n (pc' := 1) hκ 0 rfl rfl dX9_growEmptyCase_0 rfl ?_
  refine jx_callVv (pc' := 4) hκ (c_LR_beginEmptyCase (dg hκ) h) rfl rfl rfl (gV wm_32_13 wm_32_14 wm_32_15 wm_1_2 wm_32_16) hqV_X9_beginEmptyCase ⟨Nat.le_of_ble_eq_true rfl, Nat.le_of_ble_eq_true rfl⟩ (wg_0 g _ _) rfl rfl rfl (Nat.le_of_ble_eq_true rfl) dX9_growEmptyCase_1 rfl (fun X1 h => ?_)
  refine j_aload_n (pc' := 5) hκ 0 rfl rfl dX9_growEmptyCase_4 rfl ?_
  refine jg_0_6 (pc' := 8) hκ (mi inlX9) (fl_in hκ (mc wm_2_16)) dX9_growEmptyCase_5 rfl ?_
  refine jx_callVv (pc' := 11) hκ (c_Tree_grow (dg hκ) h) rfl rfl rfl (gV wm_33_16 wm_33_17 wm_33_18 wm_2_15 wm_33_19) hqV_X8_grow ⟨Nat.le_of_ble_eq_true rfl, Nat.le_of_ble_eq_true rfl⟩ (wg_7 g _ _) rfl rfl rfl (Nat.le_of_ble_eq_true rfl) dX9_growEmptyCase_8 rfl (fun X3 h => ?_)
  exact hR _ _ _ dX9_growEmptyCase_11 h
theorem c_LR_growEmptyCase {g : Gx} (hg : Dg g) {X M : ST} {post : ST → Prop} (h : wp_LR_growEmptyCase X post) (l : Launch) : Met l yX9_growEmptyCase wq_X9_growEmptyCase rm_LR_growEmptyCase (va_Pc [.ref (g.2.1 0)] (PU g X M)) (va_Qv post (fun Y t => va_P g.1 vwCl (ww g Y M) t.heap) (wA g)) 0 0 (wA g) :=
  met_xv hg (by decide) rfl [.ref (g.2.1 0)] rfl (Nat.le_of_ble_eq_true rfl) (fun κ hκ hR => lb_LR_growEmptyCase hκ hR h) l
theorem wm_32_9 : Cond.methodLink RX9 287 yX9_growEmptyCase ∈ wAll := inr_32 (List.mem_of_getElem? (i := 9) rfl)
theorem wm_32_10 : Cond.instanceMethod yX9_growEmptyCase ∈ wAll := inr_32 (List.mem_of_getElem? (i := 10) rfl)
theorem wm_32_11 : Cond.selects RX9 yX9_growEmptyCase yX9_growEmptyCase ∈ wAll := inr_32 (List.mem_of_getElem? (i := 11) rfl)
theorem wm_32_12 : Cond.code yX9_growEmptyCase cX9_growEmptyCase 1 none ∈ wAll := inr_32 (List.mem_of_getElem? (i := 12) rfl)
theorem hqV_X9_growEmptyCase : yX9_growEmptyCase.cls = RX9 ∧ yX9_growEmptyCase.cls ≠ "java/lang/invoke/MethodHandle" ∧ yX9_growEmptyCase.cls ≠ "java/lang/invoke/VarHandle" ∧ (parseMethodDescriptor yX9_growEmptyCase.desc).map (fun d => d.parameters.length) = some 0 := by decide +kernel
theorem wm_35_10 : Cond.constantLong RX8 132 (4611686018427387904) ∈ wAll := inr_35 (List.mem_of_getElem? (i := 10) rfl)
theorem wm_35_11 : Cond.constantLong RX8 134 (2) ∈ wAll := inr_35 (List.mem_of_getElem? (i := 11) rfl)
abbrev rm_Tree_sumOfCase : Room := { frames := 2, cells := 0, slots := 0, locals := 42 }
def wp_Tree_sumOfCase_49_s (K97 : ST → Int64 → Prop) (post : Int64 → ST → Prop) (rec : ST → Int64 → Int32 → Prop) (X : ST) (l2 : Int64) (l4 : Int32) : Prop :=
  ((x_Lamps_count X) ≤ l4 → (K97 X l2)) ∧ (¬ (x_Lamps_count X) ≤ l4 → (wp_Lamps_isLive X l4 (fun r5 X4 => (r5 = 0 → (rec X4 l2 (l4 + 1))) ∧ (¬ r5 = 0 → (vp_in l4 12 ∧ (∀ v6 : Int64, v6 = l2 - (2 * ((x_Lamps_prices X4 l4.toNatClampNeg).toInt64)) → rec X4 v6 (l4 + 1)))))))
def wp_Tree_sumOfCase_49 (K97 : ST → Int64 → Prop) (post : Int64 → ST → Prop) : Nat → ST → Int64 → Int32 → Prop
  | 0 => fun _ _ _ => False
  | n + 1 => wp_Tree_sumOfCase_49_s K97 post (wp_Tree_sumOfCase_49 K97 post n)
set_option maxHeartbeats 4000000 in
set_option maxRecDepth 100000 in
theorem lb_Tree_sumOfCase_49 {κ : Cx} {g : Gx} {M : ST} (hκ : CF κ g RX8 cX8_sumOfCase wq_X8_sumOfCase 5 rm_Tree_sumOfCase) {post : Int64 → ST → Prop} (hR : RtxL κ g 5 cX8_sumOfCase M post) {K97 : ST → Int64 → Prop} (hK97 : ∀ (X : ST) (l2 : Int64), K97 X l2 → Jw κ g 5 X M [(2, .long l2)] 97 []) : ∀ (n : Nat) (X : ST) (l2 : Int64) (l4 : Int32), wp_Tree_sumOfCase_49 K97 post n X l2 l4 → Jw κ g 5 X M [(0, .ref (g.2.1 7)), (2, .long l2), (4, .int l4)] 49 [] := by
  intro n
  induction n with
  | zero =>
    intro X l2 l4  h
    exact h.elim
  | succ n ih =>
    intro X l2 l4  h
    have h : wp_Tree_sumOfCase_49_s K97 post (wp_Tree_sumOfCase_49 K97 post n) X l2 l4 := h
    unfold wp_Tree_sumOfCase_49_s at h
    refine j_iload (pc' := 51) hκ 2 rfl dX8_sumOfCase_49 rfl ?_
    refine j_aload_n (pc' := 52) hκ 0 rfl rfl dX8_sumOfCase_51 rfl ?_
    refine jg_7_0 (pc' := 55) hκ (mi inlX8) (fl_in hκ (mc wm_6_14)) dX8_sumOfCase_52 rfl ?_
    refine jg_3_9 (pc' := 58) hκ (mi inlX2) (fl_ne hκ 44 rfl) dX8_sumOfCase_55 rfl ?_
    refine j_icmp_ge (tgt := 97) (pc' := 61) hκ dX8_sumOfCase_58 (by decide) rfl (fun c => ?_) (fun c => ?_)
    · replace h := h.1 c
      refine j_sub [1] rfl ?_
      exact hK97 _ _  h
    · replace h := h.2 c
      refine j_aload_n (pc' := 62) hκ 0 rfl rfl dX8_sumOfCase_61 rfl ?_
      refine jg_7_0 (pc' := 65) hκ (mi inlX8) (fl_in hκ (mc wm_6_14)) dX8_sumOfCase_62 rfl ?_
      refine j_iload (pc' := 67) hκ 2 rfl dX8_sumOfCase_65 rfl ?_
      refine jx_callVi (pc' := 70) hκ (c_Lamps_isLive (dg hκ) h) rfl rfl rfl (gV wm_33_2 wm_17_23 wm_18_0 wm_1_23 wm_18_1) hqV_X2_isLive ⟨Nat.le_of_ble_eq_true rfl, Nat.le_of_ble_eq_true rfl⟩ (wg_3 g _ _) rfl rfl rfl (Nat.le_of_ble_eq_true rfl) dX8_sumOfCase_67 rfl (fun r5 X4 h => ?_)
      refine j_if_eq (tgt := 91) (pc' := 73) hκ dX8_sumOfCase_70 (by decide) rfl (fun c => ?_) (fun c => ?_)
      · replace h := h.1 c
        refine j_iinc (pc' := 94) (v := l4 + 1) (lv' := [(4, .int (l4 + 1)), (0, .ref (g.2.1 7)), (2, .long l2)]) hκ 2 rfl rfl (Nat.le_of_ble_eq_true rfl) rfl dX8_sumOfCase_91 rfl ?_
        refine j_goto (pc' := 49) hκ (by decide) dX8_sumOfCase_94 ?_
        refine j_sub [1, 2, 0] rfl ?_
        exact ih _ _ _  h
      · replace h := h.2 c
        refine j_lload_n (pc' := 74) hκ 1 rfl rfl dX8_sumOfCase_73 rfl ?_
        refine j_ldc2_w (pc' := 77) hκ (mc wm_35_11) dX8_sumOfCase_74 rfl ?_
        refine j_aload_n (pc' := 78) hκ 0 rfl rfl dX8_sumOfCase_77 rfl ?_
        refine jg_7_0 (pc' := 81) hκ (mi inlX8) (fl_in hκ (mc wm_6_14)) dX8_sumOfCase_78 rfl ?_
        refine jg_3_4 (pc' := 84) hκ (mi inlX2) (fl_ne hκ 46 rfl) dX8_sumOfCase_81 rfl ?_
        refine j_iload (pc' := 86) hκ 2 rfl dX8_sumOfCase_84 rfl ?_
        refine jx_iald (pc' := 87) hκ (ah_23 g) h.1 dX8_sumOfCase_86 rfl ?_
        replace h := h.2
        refine j_i2l (pc' := 88) hκ dX8_sumOfCase_87 rfl ?_
        refine j_lmul (pc' := 89) hκ dX8_sumOfCase_88 rfl ?_
        refine j_lsub (pc' := 90) hκ dX8_sumOfCase_89 rfl ?_
        refine j_topl (fun v6 ev6 => ?_)
        replace h := h v6 ev6
        refine j_lstore_n (pc' := 91) (lv' := [(2, .long v6), (0, .ref (g.2.1 7)), (4, .int l4)]) hκ (Nat.le_of_ble_eq_true rfl) rfl rfl dX8_sumOfCase_90 rfl ?_
        refine j_iinc (pc' := 94) (v := l4 + 1) (lv' := [(4, .int (l4 + 1)), (2, .long v6), (0, .ref (g.2.1 7))]) hκ 2 rfl rfl (Nat.le_of_ble_eq_true rfl) rfl dX8_sumOfCase_91 rfl ?_
        refine j_goto (pc' := 49) hκ (by decide) dX8_sumOfCase_94 ?_
        refine j_sub [2, 1, 0] rfl ?_
        exact ih _ _ _  h
def wp_Tree_sumOfCase (X : ST) (post : Int64 → ST → Prop) : Prop :=
  wp_Lamps_firstLive X (fun r2 X1 => (r2 = (-1) → (post 4611686018427387904 X1)) ∧ (¬ r2 = (-1) → (((x_Tree_takenOfFirst X1) < 2 → (post 4611686018427387904 X1)) ∧ (¬ (x_Tree_takenOfFirst X1) < 2 → (vp_in r2 12 ∧ (((x_Tree_hung X1 r2.toNatClampNeg) = (x_Lamps_live X1) → (∀ v3 : Int64, v3 = x_Tree_sum X1 → ∃ n, wp_Tree_sumOfCase_49 (fun X7 v8 => post v8 X7) post n X1 v3 0)) ∧ (¬ (x_Tree_hung X1 r2.toNatClampNeg) = (x_Lamps_live X1) → (post 4611686018427387904 X1))))))))
set_option maxHeartbeats 4000000 in
set_option maxRecDepth 100000 in
theorem lb_Tree_sumOfCase {κ : Cx} {g : Gx} {M : ST} (hκ : CF κ g RX8 cX8_sumOfCase wq_X8_sumOfCase 5 rm_Tree_sumOfCase) {post : Int64 → ST → Prop} (hR : RtxL κ g 5 cX8_sumOfCase M post) {X : ST} (h : wp_Tree_sumOfCase X post) : Jw κ g 5 X M [(0, .ref (g.2.1 7))] 0 [] := by
  unfold wp_Tree_sumOfCase at h
  refine j_aload_n (pc' := 1) hκ 0 rfl rfl dX8_sumOfCase_0 rfl ?_
  refine jg_7_0 (pc' := 4) hκ (mi inlX8) (fl_in hκ (mc wm_6_14)) dX8_sumOfCase_1 rfl ?_
  refine jx_callVi (pc' := 7) hκ (c_Lamps_firstLive (dg hκ) h) rfl rfl rfl (gV wm_33_20 wm_33_21 wm_33_22 wm_1_23 wm_33_23) hqV_X2_firstLive ⟨Nat.le_of_ble_eq_true rfl, Nat.le_of_ble_eq_true rfl⟩ (wg_3 g _ _) rfl rfl rfl (Nat.le_of_ble_eq_true rfl) dX8_sumOfCase_4 rfl (fun r2 X1 h => ?_)
  refine j_istore_n (pc' := 8) (lv' := [(1, .int r2), (0, .ref (g.2.1 7))]) hκ (Nat.le_of_ble_eq_true rfl) rfl rfl dX8_sumOfCase_7 rfl ?_
  refine j_iload_n (pc' := 9) hκ 0 rfl rfl dX8_sumOfCase_8 rfl ?_
  refine j_iconst (pc' := 10) (v := (-1)) hκ (by decide) dX8_sumOfCase_9 rfl ?_
  refine j_icmp_eq (tgt := 37) (pc' := 13) hκ dX8_sumOfCase_10 (by decide) rfl (fun c => ?_) (fun c => ?_)
  · replace h := h.1 c
    refine j_ldc2_w (pc' := 40) hκ (mc wm_35_10) dX8_sumOfCase_37 rfl ?_
    exact hR _ _ _ _ dX8_sumOfCase_40 h
  · replace h := h.2 c
    refine j_aload_n (pc' := 14) hκ 1 rfl rfl dX8_sumOfCase_13 rfl ?_
    refine jg_7_7 (pc' := 17) hκ (mi inlX8) (fl_in hκ (mc wm_6_12)) dX8_sumOfCase_14 rfl ?_
    refine j_iconst (pc' := 18) (v := 2) hκ (by decide) dX8_sumOfCase_17 rfl ?_
    refine j_icmp_lt (tgt := 37) (pc' := 21) hκ dX8_sumOfCase_18 (by decide) rfl (fun c => ?_) (fun c => ?_)
    · replace h := h.1 c
      refine j_ldc2_w (pc' := 40) hκ (mc wm_35_10) dX8_sumOfCase_37 rfl ?_
      exact hR _ _ _ _ dX8_sumOfCase_40 h
    · replace h := h.2 c
      refine j_aload_n (pc' := 22) hκ 1 rfl rfl dX8_sumOfCase_21 rfl ?_
      refine jg_7_4 (pc' := 25) hκ (mi inlX8) (fl_in hκ (mc wm_6_9)) dX8_sumOfCase_22 rfl ?_
      refine j_iload_n (pc' := 26) hκ 0 rfl rfl dX8_sumOfCase_25 rfl ?_
      refine jx_iald (pc' := 27) hκ (ah_40 g) h.1 dX8_sumOfCase_26 rfl ?_
      replace h := h.2
      refine j_aload_n (pc' := 28) hκ 1 rfl rfl dX8_sumOfCase_27 rfl ?_
      refine jg_7_0 (pc' := 31) hκ (mi inlX8) (fl_in hκ (mc wm_6_14)) dX8_sumOfCase_28 rfl ?_
      refine jg_3_8 (pc' := 34) hκ (mi inlX2) (fl_ne hκ 49 rfl) dX8_sumOfCase_31 rfl ?_
      refine j_icmp_eq (tgt := 41) (pc' := 37) hκ dX8_sumOfCase_34 (by decide) rfl (fun c => ?_) (fun c => ?_)
      · replace h := h.1 c
        refine j_aload_n (pc' := 42) hκ 1 rfl rfl dX8_sumOfCase_41 rfl ?_
        refine jg_7_8 (pc' := 45) hκ (mi inlX8) (fl_in hκ (mc wm_6_13)) dX8_sumOfCase_42 rfl ?_
        refine j_topl (fun v3 ev3 => ?_)
        replace h := h v3 ev3
        refine j_lstore_n (pc' := 46) (lv' := [(2, .long v3), (1, .int r2), (0, .ref (g.2.1 7))]) hκ (Nat.le_of_ble_eq_true rfl) rfl rfl dX8_sumOfCase_45 rfl ?_
        refine j_iconst (pc' := 47) (v := 0) hκ (by decide) dX8_sumOfCase_46 rfl ?_
        refine j_istore (pc' := 49) (lv' := [(4, .int 0), (2, .long v3), (1, .int r2), (0, .ref (g.2.1 7))]) hκ (Nat.le_of_ble_eq_true rfl) rfl dX8_sumOfCase_47 rfl ?_
        obtain ⟨n, h⟩ := h
        refine j_sub [3, 1, 0] rfl ?_
        refine lb_Tree_sumOfCase_49 hκ hR ?_ n _ _ _  h
        intro X7 v8  h
        refine j_lload_n (pc' := 98) hκ 0 rfl rfl dX8_sumOfCase_97 rfl ?_
        exact hR _ _ _ _ dX8_sumOfCase_98 h
      · replace h := h.2 c
        refine j_ldc2_w (pc' := 40) hκ (mc wm_35_10) dX8_sumOfCase_37 rfl ?_
        exact hR _ _ _ _ dX8_sumOfCase_40 h
theorem c_Tree_sumOfCase {g : Gx} (hg : Dg g) {X M : ST} {post : Int64 → ST → Prop} (h : wp_Tree_sumOfCase X post) (l : Launch) : Met l yX8_sumOfCase wq_X8_sumOfCase rm_Tree_sumOfCase (va_Pc [.ref (g.2.1 7)] (PU g X M)) (va_Ql post (fun Y t => va_P g.1 vwCl (ww g Y M) t.heap) (wA g)) 0 0 (wA g) :=
  met_xl hg (by decide) rfl [.ref (g.2.1 7)] rfl (Nat.le_of_ble_eq_true rfl) (fun κ hκ hR => lb_Tree_sumOfCase hκ hR h) l
theorem wm_35_6 : Cond.methodLink RX9 290 yX8_sumOfCase ∈ wAll := inr_35 (List.mem_of_getElem? (i := 6) rfl)
theorem wm_35_7 : Cond.instanceMethod yX8_sumOfCase ∈ wAll := inr_35 (List.mem_of_getElem? (i := 7) rfl)
theorem wm_35_8 : Cond.selects RX8 yX8_sumOfCase yX8_sumOfCase ∈ wAll := inr_35 (List.mem_of_getElem? (i := 8) rfl)
theorem wm_35_9 : Cond.code yX8_sumOfCase cX8_sumOfCase 5 (some .long) ∈ wAll := inr_35 (List.mem_of_getElem? (i := 9) rfl)
theorem hqV_X8_sumOfCase : yX8_sumOfCase.cls = RX8 ∧ yX8_sumOfCase.cls ≠ "java/lang/invoke/MethodHandle" ∧ yX8_sumOfCase.cls ≠ "java/lang/invoke/VarHandle" ∧ (parseMethodDescriptor yX8_sumOfCase.desc).map (fun d => d.parameters.length) = some 0 := by decide +kernel
theorem wm_32_4 : Cond.constantLong RX9 294 (4611686018427387904) ∈ wAll := inr_32 (List.mem_of_getElem? (i := 4) rfl)
abbrev rm_Tree_raisePrices : Room := { frames := 2, cells := 0, slots := 0, locals := 42 }
def wp_Tree_raisePrices_2_s (K43 : ST → Prop) (post : ST → Prop) (rec : ST → Int32 → Prop) (X : ST) (l1 : Int32) : Prop :=
  ((x_Lamps_count X) ≤ l1 → (K43 X)) ∧ (¬ (x_Lamps_count X) ≤ l1 → (wp_Lamps_isLive X l1 (fun r2 X1 => (r2 = 0 → (rec X1 (l1 + 1))) ∧ (¬ r2 = 0 → (vp_in l1 12 ∧ (vp_in l1 12 ∧ (∀ X3 : ST, X3 = xs_Lamps_prices X1 (upd (x_Lamps_prices X1) l1.toNatClampNeg ((x_Lamps_prices X1 l1.toNatClampNeg) - 2)) → rec X3 (l1 + 1))))))))
def wp_Tree_raisePrices_2 (K43 : ST → Prop) (post : ST → Prop) : Nat → ST → Int32 → Prop
  | 0 => fun _ _ => False
  | n + 1 => wp_Tree_raisePrices_2_s K43 post (wp_Tree_raisePrices_2 K43 post n)
set_option maxHeartbeats 4000000 in
set_option maxRecDepth 100000 in
theorem lb_Tree_raisePrices_2 {κ : Cx} {g : Gx} {M : ST} (hκ : CF κ g RX8 cX8_raisePrices wq_X8_raisePrices 2 rm_Tree_raisePrices) {post : ST → Prop} (hR : RtxV κ g 2 cX8_raisePrices M post) {K43 : ST → Prop} (hK43 : ∀ (X : ST), K43 X → Jw κ g 2 X M [(0, .ref (g.2.1 7))] 43 []) : ∀ (n : Nat) (X : ST) (l1 : Int32), wp_Tree_raisePrices_2 K43 post n X l1 → Jw κ g 2 X M [(0, .ref (g.2.1 7)), (1, .int l1)] 2 [] := by
  intro n
  induction n with
  | zero =>
    intro X l1  h
    exact h.elim
  | succ n ih =>
    intro X l1  h
    have h : wp_Tree_raisePrices_2_s K43 post (wp_Tree_raisePrices_2 K43 post n) X l1 := h
    unfold wp_Tree_raisePrices_2_s at h
    refine j_iload_n (pc' := 3) hκ 1 rfl rfl dX8_raisePrices_2 rfl ?_
    refine j_aload_n (pc' := 4) hκ 0 rfl rfl dX8_raisePrices_3 rfl ?_
    refine jg_7_0 (pc' := 7) hκ (mi inlX8) (fl_in hκ (mc wm_6_14)) dX8_raisePrices_4 rfl ?_
    refine jg_3_9 (pc' := 10) hκ (mi inlX2) (fl_ne hκ 44 rfl) dX8_raisePrices_7 rfl ?_
    refine j_icmp_ge (tgt := 43) (pc' := 13) hκ dX8_raisePrices_10 (by decide) rfl (fun c => ?_) (fun c => ?_)
    · replace h := h.1 c
      refine j_sub [0] rfl ?_
      exact hK43 _  h
    · replace h := h.2 c
      refine j_aload_n (pc' := 14) hκ 0 rfl rfl dX8_raisePrices_13 rfl ?_
      refine jg_7_0 (pc' := 17) hκ (mi inlX8) (fl_in hκ (mc wm_6_14)) dX8_raisePrices_14 rfl ?_
      refine j_iload_n (pc' := 18) hκ 1 rfl rfl dX8_raisePrices_17 rfl ?_
      refine jx_callVi (pc' := 21) hκ (c_Lamps_isLive (dg hκ) h) rfl rfl rfl (gV wm_33_2 wm_17_23 wm_18_0 wm_1_23 wm_18_1) hqV_X2_isLive ⟨Nat.le_of_ble_eq_true rfl, Nat.le_of_ble_eq_true rfl⟩ (wg_3 g _ _) rfl rfl rfl (Nat.le_of_ble_eq_true rfl) dX8_raisePrices_18 rfl (fun r2 X1 h => ?_)
      refine j_if_eq (tgt := 37) (pc' := 24) hκ dX8_raisePrices_21 (by decide) rfl (fun c => ?_) (fun c => ?_)
      · replace h := h.1 c
        refine j_iinc (pc' := 40) (v := l1 + 1) (lv' := [(1, .int (l1 + 1)), (0, .ref (g.2.1 7))]) hκ 1 rfl rfl (Nat.le_of_ble_eq_true rfl) rfl dX8_raisePrices_37 rfl ?_
        refine j_goto (pc' := 2) hκ (by decide) dX8_raisePrices_40 ?_
        refine j_sub [1, 0] rfl ?_
        exact ih _ _  h
      · replace h := h.2 c
        refine j_aload_n (pc' := 25) hκ 0 rfl rfl dX8_raisePrices_24 rfl ?_
        refine jg_7_0 (pc' := 28) hκ (mi inlX8) (fl_in hκ (mc wm_6_14)) dX8_raisePrices_25 rfl ?_
        refine jg_3_4 (pc' := 31) hκ (mi inlX2) (fl_ne hκ 46 rfl) dX8_raisePrices_28 rfl ?_
        refine j_iload_n (pc' := 32) hκ 1 rfl rfl dX8_raisePrices_31 rfl ?_
        refine j_dup2 (pc' := 33) hκ rfl rfl dX8_raisePrices_32 rfl ?_
        refine jx_iald (pc' := 34) hκ (ah_23 g) h.1 dX8_raisePrices_33 rfl ?_
        replace h := h.2
        refine j_iconst (pc' := 35) (v := 2) hκ (by decide) dX8_raisePrices_34 rfl ?_
        refine j_isub (pc' := 36) hκ dX8_raisePrices_35 rfl ?_
        refine jx_iast (pc' := 37) hκ (ah_23 g) h.1 dX8_raisePrices_36 rfl ?_
        replace h := h.2
        refine j_nmX (fun X3 eX3 => ?_)
        replace h := h X3 eX3
        refine j_iinc (pc' := 40) (v := l1 + 1) (lv' := [(1, .int (l1 + 1)), (0, .ref (g.2.1 7))]) hκ 1 rfl rfl (Nat.le_of_ble_eq_true rfl) rfl dX8_raisePrices_37 rfl ?_
        refine j_goto (pc' := 2) hκ (by decide) dX8_raisePrices_40 ?_
        refine j_sub [1, 0] rfl ?_
        exact ih _ _  h
def wp_Tree_raisePrices_45_s (K101 : ST → Prop) (post : ST → Prop) (rec : ST → Int32 → Prop) (X : ST) (l1 : Int32) : Prop :=
  ((x_Tree_takenCount X) ≤ l1 → (K101 X)) ∧ (¬ (x_Tree_takenCount X) ≤ l1 → (vp_in l1 12 ∧ (wp_LR_lesserOf X (x_Tree_takenPairs X l1.toNatClampNeg) (fun r6 X5 => vp_in r6 12 ∧ (vp_in r6 12 ∧ (∀ X7 : ST, X7 = xs_Lamps_prices X5 (upd (x_Lamps_prices X5) r6.toNatClampNeg ((x_Lamps_prices X5 r6.toNatClampNeg) + 1)) → vp_in l1 12 ∧ (wp_LR_greaterOf X7 (x_Tree_takenPairs X7 l1.toNatClampNeg) (fun r9 X8 => vp_in r9 12 ∧ (vp_in r9 12 ∧ (∀ X10 : ST, X10 = xs_Lamps_prices X8 (upd (x_Lamps_prices X8) r9.toNatClampNeg ((x_Lamps_prices X8 r9.toNatClampNeg) + 1)) → rec X10 (l1 + 1)))))))))))
def wp_Tree_raisePrices_45 (K101 : ST → Prop) (post : ST → Prop) : Nat → ST → Int32 → Prop
  | 0 => fun _ _ => False
  | n + 1 => wp_Tree_raisePrices_45_s K101 post (wp_Tree_raisePrices_45 K101 post n)
set_option maxHeartbeats 4000000 in
set_option maxRecDepth 100000 in
theorem lb_Tree_raisePrices_45 {κ : Cx} {g : Gx} {M : ST} (hκ : CF κ g RX8 cX8_raisePrices wq_X8_raisePrices 2 rm_Tree_raisePrices) {post : ST → Prop} (hR : RtxV κ g 2 cX8_raisePrices M post) {K101 : ST → Prop} (hK101 : ∀ (X : ST), K101 X → Jw κ g 2 X M [] 101 []) : ∀ (n : Nat) (X : ST) (l1 : Int32), wp_Tree_raisePrices_45 K101 post n X l1 → Jw κ g 2 X M [(0, .ref (g.2.1 7)), (1, .int l1)] 45 [] := by
  intro n
  induction n with
  | zero =>
    intro X l1  h
    exact h.elim
  | succ n ih =>
    intro X l1  h
    have h : wp_Tree_raisePrices_45_s K101 post (wp_Tree_raisePrices_45 K101 post n) X l1 := h
    unfold wp_Tree_raisePrices_45_s at h
    refine j_iload_n (pc' := 46) hκ 1 rfl rfl dX8_raisePrices_45 rfl ?_
    refine j_aload_n (pc' := 47) hκ 0 rfl rfl dX8_raisePrices_46 rfl ?_
    refine jg_7_6 (pc' := 50) hκ (mi inlX8) (fl_in hκ (mc wm_6_11)) dX8_raisePrices_47 rfl ?_
    refine j_icmp_ge (tgt := 101) (pc' := 53) hκ dX8_raisePrices_50 (by decide) rfl (fun c => ?_) (fun c => ?_)
    · replace h := h.1 c
      refine j_sub [] rfl ?_
      exact hK101 _  h
    · replace h := h.2 c
      refine j_aload_n (pc' := 54) hκ 0 rfl rfl dX8_raisePrices_53 rfl ?_
      refine jg_7_0 (pc' := 57) hκ (mi inlX8) (fl_in hκ (mc wm_6_14)) dX8_raisePrices_54 rfl ?_
      refine jg_3_4 (pc' := 60) hκ (mi inlX2) (fl_ne hκ 46 rfl) dX8_raisePrices_57 rfl ?_
      refine j_aload_n (pc' := 61) hκ 0 rfl rfl dX8_raisePrices_60 rfl ?_
      refine jg_7_3 (pc' := 64) hκ (mi inlX8) (fl_in hκ (mc wm_6_8)) dX8_raisePrices_61 rfl ?_
      refine j_iload_n (pc' := 65) hκ 1 rfl rfl dX8_raisePrices_64 rfl ?_
      refine jx_iald (pc' := 66) hκ (ah_39 g) h.1 dX8_raisePrices_65 rfl ?_
      replace h := h.2
      refine jx_callNi (pc' := 69) hκ (c_LR_lesserOf (dg hκ) h) rfl rfl rfl (gN wm_34_11) 13 rfl (mc wm_1_2) (mc wm_34_10) hqS_X9_lesserOf ⟨Nat.le_of_ble_eq_true rfl, Nat.le_of_ble_eq_true rfl⟩ rfl rfl (Nat.le_of_ble_eq_true rfl) dX8_raisePrices_66 rfl (fun r6 X5 h => ?_)
      refine j_dup2 (pc' := 70) hκ rfl rfl dX8_raisePrices_69 rfl ?_
      refine jx_iald (pc' := 71) hκ (ah_23 g) h.1 dX8_raisePrices_70 rfl ?_
      replace h := h.2
      refine j_iconst (pc' := 72) (v := 1) hκ (by decide) dX8_raisePrices_71 rfl ?_
      refine j_iadd (pc' := 73) hκ dX8_raisePrices_72 rfl ?_
      refine jx_iast (pc' := 74) hκ (ah_23 g) h.1 dX8_raisePrices_73 rfl ?_
      replace h := h.2
      refine j_nmX (fun X7 eX7 => ?_)
      replace h := h X7 eX7
      refine j_aload_n (pc' := 75) hκ 0 rfl rfl dX8_raisePrices_74 rfl ?_
      refine jg_7_0 (pc' := 78) hκ (mi inlX8) (fl_in hκ (mc wm_6_14)) dX8_raisePrices_75 rfl ?_
      refine jg_3_4 (pc' := 81) hκ (mi inlX2) (fl_ne hκ 46 rfl) dX8_raisePrices_78 rfl ?_
      refine j_aload_n (pc' := 82) hκ 0 rfl rfl dX8_raisePrices_81 rfl ?_
      refine jg_7_3 (pc' := 85) hκ (mi inlX8) (fl_in hκ (mc wm_6_8)) dX8_raisePrices_82 rfl ?_
      refine j_iload_n (pc' := 86) hκ 1 rfl rfl dX8_raisePrices_85 rfl ?_
      refine jx_iald (pc' := 87) hκ (ah_39 g) h.1 dX8_raisePrices_86 rfl ?_
      replace h := h.2
      refine jx_callNi (pc' := 90) hκ (c_LR_greaterOf (dg hκ) h) rfl rfl rfl (gN wm_34_13) 14 rfl (mc wm_1_2) (mc wm_34_12) hqS_X9_greaterOf ⟨Nat.le_of_ble_eq_true rfl, Nat.le_of_ble_eq_true rfl⟩ rfl rfl (Nat.le_of_ble_eq_true rfl) dX8_raisePrices_87 rfl (fun r9 X8 h => ?_)
      refine j_dup2 (pc' := 91) hκ rfl rfl dX8_raisePrices_90 rfl ?_
      refine jx_iald (pc' := 92) hκ (ah_23 g) h.1 dX8_raisePrices_91 rfl ?_
      replace h := h.2
      refine j_iconst (pc' := 93) (v := 1) hκ (by decide) dX8_raisePrices_92 rfl ?_
      refine j_iadd (pc' := 94) hκ dX8_raisePrices_93 rfl ?_
      refine jx_iast (pc' := 95) hκ (ah_23 g) h.1 dX8_raisePrices_94 rfl ?_
      replace h := h.2
      refine j_nmX (fun X10 eX10 => ?_)
      replace h := h X10 eX10
      refine j_iinc (pc' := 98) (v := l1 + 1) (lv' := [(1, .int (l1 + 1)), (0, .ref (g.2.1 7))]) hκ 1 rfl rfl (Nat.le_of_ble_eq_true rfl) rfl dX8_raisePrices_95 rfl ?_
      refine j_goto (pc' := 45) hκ (by decide) dX8_raisePrices_98 ?_
      refine j_sub [1, 0] rfl ?_
      exact ih _ _  h
def wp_Tree_raisePrices (X : ST) (post : ST → Prop) : Prop :=
  ∃ n, wp_Tree_raisePrices_2 (fun X4 => ∃ n, wp_Tree_raisePrices_45 (fun X11 => post X11) post n X4 0) post n X 0
set_option maxHeartbeats 4000000 in
set_option maxRecDepth 100000 in
theorem lb_Tree_raisePrices {κ : Cx} {g : Gx} {M : ST} (hκ : CF κ g RX8 cX8_raisePrices wq_X8_raisePrices 2 rm_Tree_raisePrices) {post : ST → Prop} (hR : RtxV κ g 2 cX8_raisePrices M post) {X : ST} (h : wp_Tree_raisePrices X post) : Jw κ g 2 X M [(0, .ref (g.2.1 7))] 0 [] := by
  unfold wp_Tree_raisePrices at h
  refine j_iconst (pc' := 1) (v := 0) hκ (by decide) dX8_raisePrices_0 rfl ?_
  refine j_istore_n (pc' := 2) (lv' := [(1, .int 0), (0, .ref (g.2.1 7))]) hκ (Nat.le_of_ble_eq_true rfl) rfl rfl dX8_raisePrices_1 rfl ?_
  obtain ⟨n, h⟩ := h
  refine j_sub [1, 0] rfl ?_
  refine lb_Tree_raisePrices_2 hκ hR ?_ n _ _  h
  intro X4  h
  refine j_iconst (pc' := 44) (v := 0) hκ (by decide) dX8_raisePrices_43 rfl ?_
  refine j_istore_n (pc' := 45) (lv' := [(1, .int 0), (0, .ref (g.2.1 7))]) hκ (Nat.le_of_ble_eq_true rfl) rfl rfl dX8_raisePrices_44 rfl ?_
  obtain ⟨n, h⟩ := h
  refine j_sub [1, 0] rfl ?_
  refine lb_Tree_raisePrices_45 hκ hR ?_ n _ _  h
  intro X11  h
  exact hR _ _ _ dX8_raisePrices_101 h
theorem c_Tree_raisePrices {g : Gx} (hg : Dg g) {X M : ST} {post : ST → Prop} (h : wp_Tree_raisePrices X post) (l : Launch) : Met l yX8_raisePrices wq_X8_raisePrices rm_Tree_raisePrices (va_Pc [.ref (g.2.1 7)] (PU g X M)) (va_Qv post (fun Y t => va_P g.1 vwCl (ww g Y M) t.heap) (wA g)) 0 0 (wA g) :=
  met_xv hg (by decide) rfl [.ref (g.2.1 7)] rfl (Nat.le_of_ble_eq_true rfl) (fun κ hκ hR => lb_Tree_raisePrices hκ hR h) l
theorem wm_35_12 : Cond.methodLink RX9 296 yX8_raisePrices ∈ wAll := inr_35 (List.mem_of_getElem? (i := 12) rfl)
theorem wm_35_13 : Cond.instanceMethod yX8_raisePrices ∈ wAll := inr_35 (List.mem_of_getElem? (i := 13) rfl)
theorem wm_35_14 : Cond.selects RX8 yX8_raisePrices yX8_raisePrices ∈ wAll := inr_35 (List.mem_of_getElem? (i := 14) rfl)
theorem wm_35_15 : Cond.code yX8_raisePrices cX8_raisePrices 2 none ∈ wAll := inr_35 (List.mem_of_getElem? (i := 15) rfl)
theorem hqV_X8_raisePrices : yX8_raisePrices.cls = RX8 ∧ yX8_raisePrices.cls ≠ "java/lang/invoke/MethodHandle" ∧ yX8_raisePrices.cls ≠ "java/lang/invoke/VarHandle" ∧ (parseMethodDescriptor yX8_raisePrices.desc).map (fun d => d.parameters.length) = some 0 := by decide +kernel
abbrev rm_Tree_rankAnew : Room := { frames := 2, cells := 0, slots := 0, locals := 45 }
def wp_Tree_rankAnew_2_s (K42 : ST → Prop) (post : ST → Prop) (rec : ST → Int32 → Prop) (X : ST) (l1 : Int32) : Prop :=
  ((x_Tree_pairs X) ≤ l1 → (K42 X)) ∧ (¬ (x_Tree_pairs X) ≤ l1 → (wp_Tree_pairAt X l1 (fun r2 X1 => wp_LR_lesserOf X1 r2 (fun r4 X3 => wp_Tree_pairAt X3 l1 (fun r6 X5 => wp_LR_greaterOf X5 r6 (fun r8 X7 => wp_Tree_keyOf X7 r4 r8 (fun r10 X9 => vp_in l1 66 ∧ (∀ X11 : ST, X11 = xs_Tree_ranked X9 (vp_updL (x_Tree_ranked X9) l1.toNatClampNeg r10) → rec X11 (l1 + 1)))))))))
def wp_Tree_rankAnew_2 (K42 : ST → Prop) (post : ST → Prop) : Nat → ST → Int32 → Prop
  | 0 => fun _ _ => False
  | n + 1 => wp_Tree_rankAnew_2_s K42 post (wp_Tree_rankAnew_2 K42 post n)
set_option maxHeartbeats 4000000 in
set_option maxRecDepth 100000 in
theorem lb_Tree_rankAnew_2 {κ : Cx} {g : Gx} {M : ST} (hκ : CF κ g RX8 cX8_rankAnew wq_X8_rankAnew 2 rm_Tree_rankAnew) {post : ST → Prop} (hR : RtxV κ g 2 cX8_rankAnew M post) {K42 : ST → Prop} (hK42 : ∀ (X : ST), K42 X → Jw κ g 2 X M [(0, .ref (g.2.1 7))] 42 []) : ∀ (n : Nat) (X : ST) (l1 : Int32), wp_Tree_rankAnew_2 K42 post n X l1 → Jw κ g 2 X M [(0, .ref (g.2.1 7)), (1, .int l1)] 2 [] := by
  intro n
  induction n with
  | zero =>
    intro X l1  h
    exact h.elim
  | succ n ih =>
    intro X l1  h
    have h : wp_Tree_rankAnew_2_s K42 post (wp_Tree_rankAnew_2 K42 post n) X l1 := h
    unfold wp_Tree_rankAnew_2_s at h
    refine j_iload_n (pc' := 3) hκ 1 rfl rfl dX8_rankAnew_2 rfl ?_
    refine j_aload_n (pc' := 4) hκ 0 rfl rfl dX8_rankAnew_3 rfl ?_
    refine jg_7_5 (pc' := 7) hκ (mi inlX8) (fl_in hκ (mc wm_6_10)) dX8_rankAnew_4 rfl ?_
    refine j_icmp_ge (tgt := 42) (pc' := 10) hκ dX8_rankAnew_7 (by decide) rfl (fun c => ?_) (fun c => ?_)
    · replace h := h.1 c
      refine j_sub [0] rfl ?_
      exact hK42 _  h
    · replace h := h.2 c
      refine j_aload_n (pc' := 11) hκ 0 rfl rfl dX8_rankAnew_10 rfl ?_
      refine jg_7_2 (pc' := 14) hκ (mi inlX8) (fl_in hκ (mc wm_6_7)) dX8_rankAnew_11 rfl ?_
      refine j_iload_n (pc' := 15) hκ 1 rfl rfl dX8_rankAnew_14 rfl ?_
      refine j_aload_n (pc' := 16) hκ 0 rfl rfl dX8_rankAnew_15 rfl ?_
      refine j_aload_n (pc' := 17) hκ 0 rfl rfl dX8_rankAnew_16 rfl ?_
      refine j_iload_n (pc' := 18) hκ 1 rfl rfl dX8_rankAnew_17 rfl ?_
      refine jx_callVi (pc' := 21) hκ (c_Tree_pairAt (dg hκ) h) rfl rfl rfl (gV wm_34_5 wm_34_6 wm_34_7 wm_2_15 wm_34_8) hqV_X8_pairAt ⟨Nat.le_of_ble_eq_true rfl, Nat.le_of_ble_eq_true rfl⟩ (wg_7 g _ _) rfl rfl rfl (Nat.le_of_ble_eq_true rfl) dX8_rankAnew_18 rfl (fun r2 X1 h => ?_)
      refine jx_callNi (pc' := 24) hκ (c_LR_lesserOf (dg hκ) h) rfl rfl rfl (gN wm_34_11) 13 rfl (mc wm_1_2) (mc wm_34_10) hqS_X9_lesserOf ⟨Nat.le_of_ble_eq_true rfl, Nat.le_of_ble_eq_true rfl⟩ rfl rfl (Nat.le_of_ble_eq_true rfl) dX8_rankAnew_21 rfl (fun r4 X3 h => ?_)
      refine j_aload_n (pc' := 25) hκ 0 rfl rfl dX8_rankAnew_24 rfl ?_
      refine j_iload_n (pc' := 26) hκ 1 rfl rfl dX8_rankAnew_25 rfl ?_
      refine jx_callVi (pc' := 29) hκ (c_Tree_pairAt (dg hκ) h) rfl rfl rfl (gV wm_34_5 wm_34_6 wm_34_7 wm_2_15 wm_34_8) hqV_X8_pairAt ⟨Nat.le_of_ble_eq_true rfl, Nat.le_of_ble_eq_true rfl⟩ (wg_7 g _ _) rfl rfl rfl (Nat.le_of_ble_eq_true rfl) dX8_rankAnew_26 rfl (fun r6 X5 h => ?_)
      refine jx_callNi (pc' := 32) hκ (c_LR_greaterOf (dg hκ) h) rfl rfl rfl (gN wm_34_13) 14 rfl (mc wm_1_2) (mc wm_34_12) hqS_X9_greaterOf ⟨Nat.le_of_ble_eq_true rfl, Nat.le_of_ble_eq_true rfl⟩ rfl rfl (Nat.le_of_ble_eq_true rfl) dX8_rankAnew_29 rfl (fun r8 X7 h => ?_)
      refine jx_callVl (pc' := 35) hκ (c_Tree_keyOf (dg hκ) h) rfl rfl rfl (gV wm_33_3 wm_33_4 wm_33_5 wm_2_15 wm_33_6) hqV_X8_keyOf ⟨Nat.le_of_ble_eq_true rfl, Nat.le_of_ble_eq_true rfl⟩ (wg_7 g _ _) rfl rfl rfl (Nat.le_of_ble_eq_true rfl) dX8_rankAnew_32 rfl (fun r10 X9 h => ?_)
      refine jx_last (pc' := 36) hκ (ah_38 g) h.1 dX8_rankAnew_35 rfl ?_
      replace h := h.2
      refine j_nmX (fun X11 eX11 => ?_)
      replace h := h X11 eX11
      refine j_iinc (pc' := 39) (v := l1 + 1) (lv' := [(1, .int (l1 + 1)), (0, .ref (g.2.1 7))]) hκ 1 rfl rfl (Nat.le_of_ble_eq_true rfl) rfl dX8_rankAnew_36 rfl ?_
      refine j_goto (pc' := 2) hκ (by decide) dX8_rankAnew_39 ?_
      refine j_sub [1, 0] rfl ?_
      exact ih _ _  h
def wp_Tree_rankAnew (X : ST) (post : ST → Prop) : Prop :=
  ∃ n, wp_Tree_rankAnew_2 (fun X12 => wp_Tree_sort X12 (fun X13 => post X13)) post n X 0
set_option maxHeartbeats 4000000 in
set_option maxRecDepth 100000 in
theorem lb_Tree_rankAnew {κ : Cx} {g : Gx} {M : ST} (hκ : CF κ g RX8 cX8_rankAnew wq_X8_rankAnew 2 rm_Tree_rankAnew) {post : ST → Prop} (hR : RtxV κ g 2 cX8_rankAnew M post) {X : ST} (h : wp_Tree_rankAnew X post) : Jw κ g 2 X M [(0, .ref (g.2.1 7))] 0 [] := by
  unfold wp_Tree_rankAnew at h
  refine j_iconst (pc' := 1) (v := 0) hκ (by decide) dX8_rankAnew_0 rfl ?_
  refine j_istore_n (pc' := 2) (lv' := [(1, .int 0), (0, .ref (g.2.1 7))]) hκ (Nat.le_of_ble_eq_true rfl) rfl rfl dX8_rankAnew_1 rfl ?_
  obtain ⟨n, h⟩ := h
  refine j_sub [1, 0] rfl ?_
  refine lb_Tree_rankAnew_2 hκ hR ?_ n _ _  h
  intro X12  h
  refine j_aload_n (pc' := 43) hκ 0 rfl rfl dX8_rankAnew_42 rfl ?_
  refine jx_callVv (pc' := 46) hκ (c_Tree_sort (dg hκ) h) rfl rfl rfl (gV wm_33_12 wm_33_13 wm_33_14 wm_2_15 wm_33_15) hqV_X8_sort ⟨Nat.le_of_ble_eq_true rfl, Nat.le_of_ble_eq_true rfl⟩ (wg_7 g _ _) rfl rfl rfl (Nat.le_of_ble_eq_true rfl) dX8_rankAnew_43 rfl (fun X13 h => ?_)
  exact hR _ _ _ dX8_rankAnew_46 h
theorem c_Tree_rankAnew {g : Gx} (hg : Dg g) {X M : ST} {post : ST → Prop} (h : wp_Tree_rankAnew X post) (l : Launch) : Met l yX8_rankAnew wq_X8_rankAnew rm_Tree_rankAnew (va_Pc [.ref (g.2.1 7)] (PU g X M)) (va_Qv post (fun Y t => va_P g.1 vwCl (ww g Y M) t.heap) (wA g)) 0 0 (wA g) :=
  met_xv hg (by decide) rfl [.ref (g.2.1 7)] rfl (Nat.le_of_ble_eq_true rfl) (fun κ hκ hR => lb_Tree_rankAnew hκ hR h) l
theorem wm_35_16 : Cond.methodLink RX9 299 yX8_rankAnew ∈ wAll := inr_35 (List.mem_of_getElem? (i := 16) rfl)
theorem wm_35_17 : Cond.instanceMethod yX8_rankAnew ∈ wAll := inr_35 (List.mem_of_getElem? (i := 17) rfl)
theorem wm_35_18 : Cond.selects RX8 yX8_rankAnew yX8_rankAnew ∈ wAll := inr_35 (List.mem_of_getElem? (i := 18) rfl)
theorem wm_35_19 : Cond.code yX8_rankAnew cX8_rankAnew 2 none ∈ wAll := inr_35 (List.mem_of_getElem? (i := 19) rfl)
theorem hqV_X8_rankAnew : yX8_rankAnew.cls = RX8 ∧ yX8_rankAnew.cls ≠ "java/lang/invoke/MethodHandle" ∧ yX8_rankAnew.cls ≠ "java/lang/invoke/VarHandle" ∧ (parseMethodDescriptor yX8_rankAnew.desc).map (fun d => d.parameters.length) = some 0 := by decide +kernel
abbrev rm_LR_climb : Room := { frames := 6, cells := 0, slots := 0, locals := 133 }
def wp_LR_climb_29_s (K75 : ST → Int32 → Prop) (post : Int32 → ST → Prop) (rec : ST → Int32 → Int32 → Prop) (X : ST) (l1 : Int32) (l2 : Int32) : Prop :=
  (l1 ≤ l2 → (K75 X l2)) ∧ (¬ l1 ≤ l2 → (wp_Tree_sumOfCase X (fun r6 X5 => (4611686018427387904 ≤ r6 → (K75 X5 l2)) ∧ (¬ 4611686018427387904 ≤ r6 → (wp_Tree_raisePrices X5 (fun X7 => wp_Tree_rankAnew X7 (fun X9 => wp_Tree_grow X9 (fun X11 => rec X11 l1 (l2 + 1)))))))))
def wp_LR_climb_29 (K75 : ST → Int32 → Prop) (post : Int32 → ST → Prop) : Nat → ST → Int32 → Int32 → Prop
  | 0 => fun _ _ _ => False
  | n + 1 => wp_LR_climb_29_s K75 post (wp_LR_climb_29 K75 post n)
set_option maxHeartbeats 4000000 in
set_option maxRecDepth 100000 in
theorem lb_LR_climb_29 {κ : Cx} {g : Gx} {M : ST} (hκ : CF κ g RX9 cX9_climb wq_X9_climb 3 rm_LR_climb) {post : Int32 → ST → Prop} (hR : RtxI κ g 3 cX9_climb M post) {K75 : ST → Int32 → Prop} (hK75 : ∀ (X : ST) (l2 : Int32), K75 X l2 → Jw κ g 3 X M [(2, .int l2)] 75 []) : ∀ (n : Nat) (X : ST) (l1 : Int32) (l2 : Int32), wp_LR_climb_29 K75 post n X l1 l2 → Jw κ g 3 X M [(0, .ref (g.2.1 0)), (1, .int l1), (2, .int l2)] 29 [] := by
  intro n
  induction n with
  | zero =>
    intro X l1 l2  h
    exact h.elim
  | succ n ih =>
    intro X l1 l2  h
    have h : wp_LR_climb_29_s K75 post (wp_LR_climb_29 K75 post n) X l1 l2 := h
    unfold wp_LR_climb_29_s at h
    refine j_iload_n (pc' := 30) hκ 2 rfl rfl dX9_climb_29 rfl ?_
    refine j_iload_n (pc' := 31) hκ 1 rfl rfl dX9_climb_30 rfl ?_
    refine j_icmp_ge (tgt := 75) (pc' := 34) hκ dX9_climb_31 (by decide) rfl (fun c => ?_) (fun c => ?_)
    · replace h := h.1 c
      refine j_sub [2] rfl ?_
      exact hK75 _ _  h
    · replace h := h.2 c
      refine j_aload_n (pc' := 35) hκ 0 rfl rfl dX9_climb_34 rfl ?_
      refine jg_0_6 (pc' := 38) hκ (mi inlX9) (fl_in hκ (mc wm_2_16)) dX9_climb_35 rfl ?_
      refine jx_callVl (pc' := 41) hκ (c_Tree_sumOfCase (dg hκ) h) rfl rfl rfl (gV wm_35_6 wm_35_7 wm_35_8 wm_2_15 wm_35_9) hqV_X8_sumOfCase ⟨Nat.le_of_ble_eq_true rfl, Nat.le_of_ble_eq_true rfl⟩ (wg_7 g _ _) rfl rfl rfl (Nat.le_of_ble_eq_true rfl) dX9_climb_38 rfl (fun r6 X5 h => ?_)
      refine j_ldc2_w (pc' := 44) hκ (mc wm_32_4) dX9_climb_41 rfl ?_
      refine j_lc_ge (tgt := 75) (pc1 := 45) (pc' := 48) hκ dX9_climb_44 rfl dX9_climb_45 (by decide) rfl (fun c => ?_) (fun c => ?_)
      · replace h := h.1 c
        refine j_sub [2] rfl ?_
        exact hK75 _ _  h
      · replace h := h.2 c
        refine j_aload_n (pc' := 49) hκ 0 rfl rfl dX9_climb_48 rfl ?_
        refine jg_0_6 (pc' := 52) hκ (mi inlX9) (fl_in hκ (mc wm_2_16)) dX9_climb_49 rfl ?_
        refine jx_callVv (pc' := 55) hκ (c_Tree_raisePrices (dg hκ) h) rfl rfl rfl (gV wm_35_12 wm_35_13 wm_35_14 wm_2_15 wm_35_15) hqV_X8_raisePrices ⟨Nat.le_of_ble_eq_true rfl, Nat.le_of_ble_eq_true rfl⟩ (wg_7 g _ _) rfl rfl rfl (Nat.le_of_ble_eq_true rfl) dX9_climb_52 rfl (fun X7 h => ?_)
        refine j_aload_n (pc' := 56) hκ 0 rfl rfl dX9_climb_55 rfl ?_
        refine jg_0_6 (pc' := 59) hκ (mi inlX9) (fl_in hκ (mc wm_2_16)) dX9_climb_56 rfl ?_
        refine jx_callVv (pc' := 62) hκ (c_Tree_rankAnew (dg hκ) h) rfl rfl rfl (gV wm_35_16 wm_35_17 wm_35_18 wm_2_15 wm_35_19) hqV_X8_rankAnew ⟨Nat.le_of_ble_eq_true rfl, Nat.le_of_ble_eq_true rfl⟩ (wg_7 g _ _) rfl rfl rfl (Nat.le_of_ble_eq_true rfl) dX9_climb_59 rfl (fun X9 h => ?_)
        refine j_aload_n (pc' := 63) hκ 0 rfl rfl dX9_climb_62 rfl ?_
        refine jg_0_6 (pc' := 66) hκ (mi inlX9) (fl_in hκ (mc wm_2_16)) dX9_climb_63 rfl ?_
        refine jx_callVv (pc' := 69) hκ (c_Tree_grow (dg hκ) h) rfl rfl rfl (gV wm_33_16 wm_33_17 wm_33_18 wm_2_15 wm_33_19) hqV_X8_grow ⟨Nat.le_of_ble_eq_true rfl, Nat.le_of_ble_eq_true rfl⟩ (wg_7 g _ _) rfl rfl rfl (Nat.le_of_ble_eq_true rfl) dX9_climb_66 rfl (fun X11 h => ?_)
        refine j_iinc (pc' := 72) (v := l2 + 1) (lv' := [(2, .int (l2 + 1)), (0, .ref (g.2.1 0)), (1, .int l1)]) hκ 2 rfl rfl (Nat.le_of_ble_eq_true rfl) rfl dX9_climb_69 rfl ?_
        refine j_goto (pc' := 29) hκ (by decide) dX9_climb_72 ?_
        refine j_sub [1, 2, 0] rfl ?_
        exact ih _ _ _  h
def wp_LR_climb (X : ST) (p1 : Int32) (post : Int32 → ST → Prop) : Prop :=
  (p1 < 1 → (post (-1) X)) ∧ (¬ p1 < 1 → ((p1 ≤ 100 → (wp_LR_isTooSmall X (fun r2 X1 => (r2 = 0 → (wp_LR_growEmptyCase X1 (fun X3 => ∃ n, wp_LR_climb_29 (fun X13 v14 => post v14 X13) post n X3 p1 0))) ∧ (¬ r2 = 0 → (post (-4) X1))))) ∧ (¬ p1 ≤ 100 → (post (-1) X))))
set_option maxHeartbeats 4000000 in
set_option maxRecDepth 100000 in
theorem lb_LR_climb {κ : Cx} {g : Gx} {M : ST} (hκ : CF κ g RX9 cX9_climb wq_X9_climb 3 rm_LR_climb) {post : Int32 → ST → Prop} (hR : RtxI κ g 3 cX9_climb M post) {X : ST} {p1 : Int32} (h : wp_LR_climb X p1 post) : Jw κ g 3 X M [(0, .ref (g.2.1 0)), (1, .int p1)] 0 [] := by
  unfold wp_LR_climb at h
  refine j_iload_n (pc' := 1) hκ 1 rfl rfl dX9_climb_0 rfl ?_
  refine j_iconst (pc' := 2) (v := 1) hκ (by decide) dX9_climb_1 rfl ?_
  refine j_icmp_lt (tgt := 11) (pc' := 5) hκ dX9_climb_2 (by decide) rfl (fun c => ?_) (fun c => ?_)
  · replace h := h.1 c
    refine j_iconst (pc' := 12) (v := (-1)) hκ (by decide) dX9_climb_11 rfl ?_
    exact hR _ _ _ _ dX9_climb_12 h
  · replace h := h.2 c
    refine j_iload_n (pc' := 6) hκ 1 rfl rfl dX9_climb_5 rfl ?_
    refine j_bipush (pc' := 8) (v := 100) hκ (by decide) dX9_climb_6 rfl ?_
    refine j_icmp_le (tgt := 13) (pc' := 11) hκ dX9_climb_8 (by decide) rfl (fun c => ?_) (fun c => ?_)
    · replace h := h.1 c
      refine j_aload_n (pc' := 14) hκ 0 rfl rfl dX9_climb_13 rfl ?_
      refine jx_callVi (pc' := 17) hκ (c_LR_isTooSmall (dg hκ) h) rfl rfl rfl (gV wm_32_5 wm_32_6 wm_32_7 wm_1_2 wm_32_8) hqV_X9_isTooSmall ⟨Nat.le_of_ble_eq_true rfl, Nat.le_of_ble_eq_true rfl⟩ (wg_0 g _ _) rfl rfl rfl (Nat.le_of_ble_eq_true rfl) dX9_climb_14 rfl (fun r2 X1 h => ?_)
      refine j_if_eq (tgt := 23) (pc' := 20) hκ dX9_climb_17 (by decide) rfl (fun c => ?_) (fun c => ?_)
      · replace h := h.1 c
        refine j_aload_n (pc' := 24) hκ 0 rfl rfl dX9_climb_23 rfl ?_
        refine jx_callVv (pc' := 27) hκ (c_LR_growEmptyCase (dg hκ) h) rfl rfl rfl (gV wm_32_9 wm_32_10 wm_32_11 wm_1_2 wm_32_12) hqV_X9_growEmptyCase ⟨Nat.le_of_ble_eq_true rfl, Nat.le_of_ble_eq_true rfl⟩ (wg_0 g _ _) rfl rfl rfl (Nat.le_of_ble_eq_true rfl) dX9_climb_24 rfl (fun X3 h => ?_)
        refine j_iconst (pc' := 28) (v := 0) hκ (by decide) dX9_climb_27 rfl ?_
        refine j_istore_n (pc' := 29) (lv' := [(2, .int 0), (0, .ref (g.2.1 0)), (1, .int p1)]) hκ (Nat.le_of_ble_eq_true rfl) rfl rfl dX9_climb_28 rfl ?_
        obtain ⟨n, h⟩ := h
        refine j_sub [1, 2, 0] rfl ?_
        refine lb_LR_climb_29 hκ hR ?_ n _ _ _  h
        intro X13 v14  h
        refine j_iload_n (pc' := 76) hκ 0 rfl rfl dX9_climb_75 rfl ?_
        exact hR _ _ _ _ dX9_climb_76 h
      · replace h := h.2 c
        refine j_bipush (pc' := 22) (v := (-4)) hκ (by decide) dX9_climb_20 rfl ?_
        exact hR _ _ _ _ dX9_climb_22 h
    · replace h := h.2 c
      refine j_iconst (pc' := 12) (v := (-1)) hκ (by decide) dX9_climb_11 rfl ?_
      exact hR _ _ _ _ dX9_climb_12 h
theorem c_LR_climb {g : Gx} (hg : Dg g) {X M : ST} {p1 : Int32} {post : Int32 → ST → Prop} (h : wp_LR_climb X p1 post) (l : Launch) : Met l yX9_climb wq_X9_climb rm_LR_climb (va_Pc [.ref (g.2.1 0), .int p1] (PU g X M)) (va_Qi post (fun Y t => va_P g.1 vwCl (ww g Y M) t.heap) (wA g)) 0 0 (wA g) :=
  met_xi hg (by decide) rfl [.ref (g.2.1 0), .int p1] rfl (Nat.le_of_ble_eq_true rfl) (fun κ hκ hR => lb_LR_climb hκ hR h) l
theorem wm_37_19 : Cond.constantLong RX9 305 (-4611686018427387904) ∈ wAll := inr_37 (List.mem_of_getElem? (i := 19) rfl)
abbrev rm_LR_bound : Room := { frames := 6, cells := 0, slots := 0, locals := 133 }
def wp_LR_bound (X : ST) (post : Int64 → ST → Prop) : Prop :=
  wp_LR_isTooSmall X (fun r2 X1 => (r2 = 0 → (wp_LR_growEmptyCase X1 (fun X3 => wp_Tree_sumOfCase X3 (fun r6 X5 => post r6 X5)))) ∧ (¬ r2 = 0 → (post (-4611686018427387904) X1)))
set_option maxHeartbeats 4000000 in
set_option maxRecDepth 100000 in
theorem lb_LR_bound {κ : Cx} {g : Gx} {M : ST} (hκ : CF κ g RX9 cX9_bound wq_X9_bound 1 rm_LR_bound) {post : Int64 → ST → Prop} (hR : RtxL κ g 1 cX9_bound M post) {X : ST} (h : wp_LR_bound X post) : Jw κ g 1 X M [(0, .ref (g.2.1 0))] 0 [] := by
  unfold wp_LR_bound at h
  refine j_aload_n (pc' := 1) hκ 0 rfl rfl dX9_bound_0 rfl ?_
  refine jx_callVi (pc' := 4) hκ (c_LR_isTooSmall (dg hκ) h) rfl rfl rfl (gV wm_32_5 wm_32_6 wm_32_7 wm_1_2 wm_32_8) hqV_X9_isTooSmall ⟨Nat.le_of_ble_eq_true rfl, Nat.le_of_ble_eq_true rfl⟩ (wg_0 g _ _) rfl rfl rfl (Nat.le_of_ble_eq_true rfl) dX9_bound_1 rfl (fun r2 X1 h => ?_)
  refine j_if_eq (tgt := 11) (pc' := 7) hκ dX9_bound_4 (by decide) rfl (fun c => ?_) (fun c => ?_)
  · replace h := h.1 c
    refine j_aload_n (pc' := 12) hκ 0 rfl rfl dX9_bound_11 rfl ?_
    refine jx_callVv (pc' := 15) hκ (c_LR_growEmptyCase (dg hκ) h) rfl rfl rfl (gV wm_32_9 wm_32_10 wm_32_11 wm_1_2 wm_32_12) hqV_X9_growEmptyCase ⟨Nat.le_of_ble_eq_true rfl, Nat.le_of_ble_eq_true rfl⟩ (wg_0 g _ _) rfl rfl rfl (Nat.le_of_ble_eq_true rfl) dX9_bound_12 rfl (fun X3 h => ?_)
    refine j_aload_n (pc' := 16) hκ 0 rfl rfl dX9_bound_15 rfl ?_
    refine jg_0_6 (pc' := 19) hκ (mi inlX9) (fl_in hκ (mc wm_2_16)) dX9_bound_16 rfl ?_
    refine jx_callVl (pc' := 22) hκ (c_Tree_sumOfCase (dg hκ) h) rfl rfl rfl (gV wm_35_6 wm_35_7 wm_35_8 wm_2_15 wm_35_9) hqV_X8_sumOfCase ⟨Nat.le_of_ble_eq_true rfl, Nat.le_of_ble_eq_true rfl⟩ (wg_7 g _ _) rfl rfl rfl (Nat.le_of_ble_eq_true rfl) dX9_bound_19 rfl (fun r6 X5 h => ?_)
    exact hR _ _ _ _ dX9_bound_22 h
  · replace h := h.2 c
    refine j_ldc2_w (pc' := 10) hκ (mc wm_37_19) dX9_bound_7 rfl ?_
    exact hR _ _ _ _ dX9_bound_10 h
theorem c_LR_bound {g : Gx} (hg : Dg g) {X M : ST} {post : Int64 → ST → Prop} (h : wp_LR_bound X post) (l : Launch) : Met l yX9_bound wq_X9_bound rm_LR_bound (va_Pc [.ref (g.2.1 0)] (PU g X M)) (va_Ql post (fun Y t => va_P g.1 vwCl (ww g Y M) t.heap) (wA g)) 0 0 (wA g) :=
  met_xl hg (by decide) rfl [.ref (g.2.1 0)] rfl (Nat.le_of_ble_eq_true rfl) (fun κ hκ hR => lb_LR_bound hκ hR h) l
abbrev rm_LR_taken : Room := { frames := 6, cells := 0, slots := 0, locals := 133 }
def wp_LR_taken (X : ST) (p1 : Int32) (post : Int32 → ST → Prop) : Prop :=
  wp_LR_isTooSmall X (fun r2 X1 => (r2 = 0 → (wp_LR_growEmptyCase X1 (fun X3 => (p1 < 0 → (post (-1) X3)) ∧ (¬ p1 < 0 → (((x_Tree_takenCount X3) ≤ p1 → (post (-1) X3)) ∧ (¬ (x_Tree_takenCount X3) ≤ p1 → (vp_in p1 12 ∧ (post (x_Tree_takenPairs X3 p1.toNatClampNeg) X3)))))))) ∧ (¬ r2 = 0 → (post (-1) X1)))
set_option maxHeartbeats 4000000 in
set_option maxRecDepth 100000 in
theorem lb_LR_taken {κ : Cx} {g : Gx} {M : ST} (hκ : CF κ g RX9 cX9_taken wq_X9_taken 2 rm_LR_taken) {post : Int32 → ST → Prop} (hR : RtxI κ g 2 cX9_taken M post) {X : ST} {p1 : Int32} (h : wp_LR_taken X p1 post) : Jw κ g 2 X M [(0, .ref (g.2.1 0)), (1, .int p1)] 0 [] := by
  unfold wp_LR_taken at h
  refine j_aload_n (pc' := 1) hκ 0 rfl rfl dX9_taken_0 rfl ?_
  refine jx_callVi (pc' := 4) hκ (c_LR_isTooSmall (dg hκ) h) rfl rfl rfl (gV wm_32_5 wm_32_6 wm_32_7 wm_1_2 wm_32_8) hqV_X9_isTooSmall ⟨Nat.le_of_ble_eq_true rfl, Nat.le_of_ble_eq_true rfl⟩ (wg_0 g _ _) rfl rfl rfl (Nat.le_of_ble_eq_true rfl) dX9_taken_1 rfl (fun r2 X1 h => ?_)
  refine j_if_eq (tgt := 9) (pc' := 7) hκ dX9_taken_4 (by decide) rfl (fun c => ?_) (fun c => ?_)
  · replace h := h.1 c
    refine j_aload_n (pc' := 10) hκ 0 rfl rfl dX9_taken_9 rfl ?_
    refine jx_callVv (pc' := 13) hκ (c_LR_growEmptyCase (dg hκ) h) rfl rfl rfl (gV wm_32_9 wm_32_10 wm_32_11 wm_1_2 wm_32_12) hqV_X9_growEmptyCase ⟨Nat.le_of_ble_eq_true rfl, Nat.le_of_ble_eq_true rfl⟩ (wg_0 g _ _) rfl rfl rfl (Nat.le_of_ble_eq_true rfl) dX9_taken_10 rfl (fun X3 h => ?_)
    refine j_iload_n (pc' := 14) hκ 1 rfl rfl dX9_taken_13 rfl ?_
    refine j_if_lt (tgt := 40) (pc' := 17) hκ dX9_taken_14 (by decide) rfl (fun c => ?_) (fun c => ?_)
    · replace h := h.1 c
      refine j_iconst (pc' := 41) (v := (-1)) hκ (by decide) dX9_taken_40 rfl ?_
      exact hR _ _ _ _ dX9_taken_41 h
    · replace h := h.2 c
      refine j_iload_n (pc' := 18) hκ 1 rfl rfl dX9_taken_17 rfl ?_
      refine j_aload_n (pc' := 19) hκ 0 rfl rfl dX9_taken_18 rfl ?_
      refine jg_0_6 (pc' := 22) hκ (mi inlX9) (fl_in hκ (mc wm_2_16)) dX9_taken_19 rfl ?_
      refine jg_7_6 (pc' := 25) hκ (mi inlX8) (fl_ne hκ 23 rfl) dX9_taken_22 rfl ?_
      refine j_icmp_ge (tgt := 40) (pc' := 28) hκ dX9_taken_25 (by decide) rfl (fun c => ?_) (fun c => ?_)
      · replace h := h.1 c
        refine j_iconst (pc' := 41) (v := (-1)) hκ (by decide) dX9_taken_40 rfl ?_
        exact hR _ _ _ _ dX9_taken_41 h
      · replace h := h.2 c
        refine j_aload_n (pc' := 29) hκ 0 rfl rfl dX9_taken_28 rfl ?_
        refine jg_0_6 (pc' := 32) hκ (mi inlX9) (fl_in hκ (mc wm_2_16)) dX9_taken_29 rfl ?_
        refine jg_7_3 (pc' := 35) hκ (mi inlX8) (fl_ne hκ 24 rfl) dX9_taken_32 rfl ?_
        refine j_iload_n (pc' := 36) hκ 1 rfl rfl dX9_taken_35 rfl ?_
        refine jx_iald (pc' := 37) hκ (ah_39 g) h.1 dX9_taken_36 rfl ?_
        replace h := h.2
        refine j_goto (pc' := 41) hκ (by decide) dX9_taken_37 ?_
        exact hR _ _ _ _ dX9_taken_41 h
  · replace h := h.2 c
    refine j_iconst (pc' := 8) (v := (-1)) hκ (by decide) dX9_taken_7 rfl ?_
    exact hR _ _ _ _ dX9_taken_8 h
theorem c_LR_taken {g : Gx} (hg : Dg g) {X M : ST} {p1 : Int32} {post : Int32 → ST → Prop} (h : wp_LR_taken X p1 post) (l : Launch) : Met l yX9_taken wq_X9_taken rm_LR_taken (va_Pc [.ref (g.2.1 0), .int p1] (PU g X M)) (va_Qi post (fun Y t => va_P g.1 vwCl (ww g Y M) t.heap) (wA g)) 0 0 (wA g) :=
  met_xi hg (by decide) rfl [.ref (g.2.1 0), .int p1] rfl (Nat.le_of_ble_eq_true rfl) (fun κ hκ hR => lb_LR_taken hκ hR h) l
theorem wm_2_20 : Cond.fieldLink RX9 69 "LampRound" "judge" "LLampRound$Judge;" ∈ wAll := inr_2 (List.mem_of_getElem? (i := 20) rfl)
theorem wm_3_1 : Cond.fieldLink RX9 80 "LampRound" "draft" "LLampRound$Lines;" ∈ wAll := inr_3 (List.mem_of_getElem? (i := 1) rfl)
theorem wm_6_21 : Cond.fieldLink RX1 15 "LampRound$Judge" "present" "LLampRound$Case;" ∈ wAll := inr_6 (List.mem_of_getElem? (i := 21) rfl)
theorem wm_6_20 : Cond.fieldLink RX1 9 "LampRound$Judge" "lamps" "LLampRound$Lamps;" ∈ wAll := inr_6 (List.mem_of_getElem? (i := 20) rfl)
abbrev rm_Judge_partedTwins : Room := { frames := 0, cells := 0, slots := 0, locals := 0 }
def wp_Judge_partedTwins (X : ST) (p1 : Int32) (post : Int32 → ST → Prop) : Prop :=
  vp_in p1 12 ∧ (vp_in p1 12 ∧ (post ((x_Lamps_needs X p1.toNatClampNeg) &&& (x_Case_parted X p1.toNatClampNeg)) X))
set_option maxHeartbeats 4000000 in
set_option maxRecDepth 100000 in
theorem lb_Judge_partedTwins {κ : Cx} {g : Gx} {M : ST} (hκ : CF κ g RX1 cX1_partedTwins wq_X1_partedTwins 2 rm_Judge_partedTwins) {post : Int32 → ST → Prop} (hR : RtxI κ g 2 cX1_partedTwins M post) {X : ST} {p1 : Int32} (h : wp_Judge_partedTwins X p1 post) : Jw κ g 2 X M [(0, .ref (g.2.1 8)), (1, .int p1)] 0 [] := by
  unfold wp_Judge_partedTwins at h
  refine j_aload_n (pc' := 1) hκ 0 rfl rfl dX1_partedTwins_0 rfl ?_
  refine jg_8_0 (pc' := 4) hκ (mi inlX1) (fl_in hκ (mc wm_6_20)) dX1_partedTwins_1 rfl ?_
  refine jg_3_6 (pc' := 7) hκ (mi inlX2) (fl_ne hκ 34 rfl) dX1_partedTwins_4 rfl ?_
  refine j_iload_n (pc' := 8) hκ 1 rfl rfl dX1_partedTwins_7 rfl ?_
  refine jx_iald (pc' := 9) hκ (ah_25 g) h.1 dX1_partedTwins_8 rfl ?_
  replace h := h.2
  refine j_aload_n (pc' := 10) hκ 0 rfl rfl dX1_partedTwins_9 rfl ?_
  refine jg_8_1 (pc' := 13) hκ (mi inlX1) (fl_in hκ (mc wm_6_21)) dX1_partedTwins_10 rfl ?_
  refine jg_6_1 (pc' := 16) hκ (mi inlX0) (fl_ne hκ 35 rfl) dX1_partedTwins_13 rfl ?_
  refine j_iload_n (pc' := 17) hκ 1 rfl rfl dX1_partedTwins_16 rfl ?_
  refine jx_iald (pc' := 18) hκ (ah_35 g) h.1 dX1_partedTwins_17 rfl ?_
  replace h := h.2
  refine j_iand (pc' := 19) hκ dX1_partedTwins_18 rfl ?_
  exact hR _ _ _ _ dX1_partedTwins_19 h
theorem c_Judge_partedTwins {g : Gx} (hg : Dg g) {X M : ST} {p1 : Int32} {post : Int32 → ST → Prop} (h : wp_Judge_partedTwins X p1 post) (l : Launch) : Met l yX1_partedTwins wq_X1_partedTwins rm_Judge_partedTwins (va_Pc [.ref (g.2.1 8), .int p1] (PU g X M)) (va_Qi post (fun Y t => va_P g.1 vwCl (ww g Y M) t.heap) (wA g)) 0 0 (wA g) :=
  met_xi hg (by decide) rfl [.ref (g.2.1 8), .int p1] rfl (Nat.le_of_ble_eq_true rfl) (fun κ hκ hR => lb_Judge_partedTwins hκ hR h) l
theorem wm_39_1 : Cond.methodLink RX1 77 yX1_partedTwins ∈ wAll := inr_39 (List.mem_of_getElem? (i := 1) rfl)
theorem wm_39_2 : Cond.instanceMethod yX1_partedTwins ∈ wAll := inr_39 (List.mem_of_getElem? (i := 2) rfl)
theorem wm_39_3 : Cond.selects RX1 yX1_partedTwins yX1_partedTwins ∈ wAll := inr_39 (List.mem_of_getElem? (i := 3) rfl)
theorem wm_2_19 : Cond.initialized RX1 ∈ wAll := inr_2 (List.mem_of_getElem? (i := 19) rfl)
theorem wm_39_4 : Cond.code yX1_partedTwins cX1_partedTwins 2 (some .int) ∈ wAll := inr_39 (List.mem_of_getElem? (i := 4) rfl)
theorem hqV_X1_partedTwins : yX1_partedTwins.cls = RX1 ∧ yX1_partedTwins.cls ≠ "java/lang/invoke/MethodHandle" ∧ yX1_partedTwins.cls ≠ "java/lang/invoke/VarHandle" ∧ (parseMethodDescriptor yX1_partedTwins.desc).map (fun d => d.parameters.length) = some 1 := by decide +kernel
theorem wm_7_5 : Cond.fieldLink RX3 21 "LampRound$Lines" "count" "I" ∈ wAll := inr_7 (List.mem_of_getElem? (i := 5) rfl)
theorem wm_7_2 : Cond.fieldLink RX3 9 "LampRound$Lines" "ops" "[I" ∈ wAll := inr_7 (List.mem_of_getElem? (i := 2) rfl)
theorem wm_7_3 : Cond.fieldLink RX3 15 "LampRound$Lines" "as" "[I" ∈ wAll := inr_7 (List.mem_of_getElem? (i := 3) rfl)
theorem wm_7_4 : Cond.fieldLink RX3 18 "LampRound$Lines" "bs" "[I" ∈ wAll := inr_7 (List.mem_of_getElem? (i := 4) rfl)
abbrev rm_draft_write : Room := { frames := 0, cells := 0, slots := 0, locals := 0 }
def wp_draft_write (X : ST) (p1 : Int32) (p2 : Int32) (p3 : Int32) (p4 : Int32) (post : ST → Prop) : Prop :=
  vp_in p1 400 ∧ (∀ X1 : ST, X1 = xs_draft_ops X (upd (x_draft_ops X) p1.toNatClampNeg p2) → vp_in p1 400 ∧ (∀ X2 : ST, X2 = xs_draft_as X1 (upd (x_draft_as X1) p1.toNatClampNeg p3) → vp_in p1 400 ∧ (∀ X3 : ST, X3 = xs_draft_bs X2 (upd (x_draft_bs X2) p1.toNatClampNeg p4) → post X3)))
set_option maxHeartbeats 4000000 in
set_option maxRecDepth 100000 in
theorem lb_draft_write {κ : Cx} {g : Gx} {M : ST} (hκ : CF κ g RX3 cX3_write wq_X3_write 5 rm_draft_write) {post : ST → Prop} (hR : RtxV κ g 5 cX3_write M post) {X : ST} {p1 : Int32} {p2 : Int32} {p3 : Int32} {p4 : Int32} (h : wp_draft_write X p1 p2 p3 p4 post) : Jw κ g 5 X M [(0, .ref (g.2.1 10)), (1, .int p1), (2, .int p2), (3, .int p3), (4, .int p4)] 0 [] := by
  unfold wp_draft_write at h
  refine j_aload_n (pc' := 1) hκ 0 rfl rfl dX3_write_0 rfl ?_
  refine jg_10_0 (pc' := 4) hκ (mi inlX3) (fl_in hκ (mc wm_7_2)) dX3_write_1 rfl ?_
  refine j_iload_n (pc' := 5) hκ 1 rfl rfl dX3_write_4 rfl ?_
  refine j_iload_n (pc' := 6) hκ 2 rfl rfl dX3_write_5 rfl ?_
  refine jx_iast (pc' := 7) hκ (ah_44 g) h.1 dX3_write_6 rfl ?_
  replace h := h.2
  refine j_nmX (fun X1 eX1 => ?_)
  replace h := h X1 eX1
  refine j_aload_n (pc' := 8) hκ 0 rfl rfl dX3_write_7 rfl ?_
  refine jg_10_1 (pc' := 11) hκ (mi inlX3) (fl_in hκ (mc wm_7_3)) dX3_write_8 rfl ?_
  refine j_iload_n (pc' := 12) hκ 1 rfl rfl dX3_write_11 rfl ?_
  refine j_iload_n (pc' := 13) hκ 3 rfl rfl dX3_write_12 rfl ?_
  refine jx_iast (pc' := 14) hκ (ah_45 g) h.1 dX3_write_13 rfl ?_
  replace h := h.2
  refine j_nmX (fun X2 eX2 => ?_)
  replace h := h X2 eX2
  refine j_aload_n (pc' := 15) hκ 0 rfl rfl dX3_write_14 rfl ?_
  refine jg_10_2 (pc' := 18) hκ (mi inlX3) (fl_in hκ (mc wm_7_4)) dX3_write_15 rfl ?_
  refine j_iload_n (pc' := 19) hκ 1 rfl rfl dX3_write_18 rfl ?_
  refine j_iload (pc' := 21) hκ 4 rfl dX3_write_19 rfl ?_
  refine jx_iast (pc' := 22) hκ (ah_46 g) h.1 dX3_write_21 rfl ?_
  replace h := h.2
  refine j_nmX (fun X3 eX3 => ?_)
  replace h := h X3 eX3
  exact hR _ _ _ dX3_write_22 h
theorem c_draft_write {g : Gx} (hg : Dg g) {X M : ST} {p1 : Int32} {p2 : Int32} {p3 : Int32} {p4 : Int32} {post : ST → Prop} (h : wp_draft_write X p1 p2 p3 p4 post) (l : Launch) : Met l yX3_write wq_X3_write rm_draft_write (va_Pc [.ref (g.2.1 10), .int p1, .int p2, .int p3, .int p4] (PU g X M)) (va_Qv post (fun Y t => va_P g.1 vwCl (ww g Y M) t.heap) (wA g)) 0 0 (wA g) :=
  met_xv hg (by decide) rfl [.ref (g.2.1 10), .int p1, .int p2, .int p3, .int p4] rfl (Nat.le_of_ble_eq_true rfl) (fun κ hκ hR => lb_draft_write hκ hR h) l
theorem wm_39_9 : Cond.methodLink RX3 25 yX3_write ∈ wAll := inr_39 (List.mem_of_getElem? (i := 9) rfl)
theorem wm_39_10 : Cond.instanceMethod yX3_write ∈ wAll := inr_39 (List.mem_of_getElem? (i := 10) rfl)
theorem wm_39_11 : Cond.selects RX3 yX3_write yX3_write ∈ wAll := inr_39 (List.mem_of_getElem? (i := 11) rfl)
theorem wm_2_23 : Cond.initialized RX3 ∈ wAll := inr_2 (List.mem_of_getElem? (i := 23) rfl)
theorem wm_39_12 : Cond.code yX3_write cX3_write 5 none ∈ wAll := inr_39 (List.mem_of_getElem? (i := 12) rfl)
theorem hqV_X3_write : yX3_write.cls = RX3 ∧ yX3_write.cls ≠ "java/lang/invoke/MethodHandle" ∧ yX3_write.cls ≠ "java/lang/invoke/VarHandle" ∧ (parseMethodDescriptor yX3_write.desc).map (fun d => d.parameters.length) = some 4 := by decide +kernel
abbrev rm_draft_append : Room := { frames := 1, cells := 0, slots := 0, locals := 24 }
def wp_draft_append (X : ST) (p1 : Int32) (p2 : Int32) (p3 : Int32) (post : ST → Prop) : Prop :=
  (400 ≤ (x_draft_count X) → (post X)) ∧ (¬ 400 ≤ (x_draft_count X) → (wp_draft_write X (x_draft_count X) p1 p2 p3 (fun X1 => ∀ X3 : ST, X3 = xs_draft_count X1 ((x_draft_count X1) + 1) → post X3)))
set_option maxHeartbeats 4000000 in
set_option maxRecDepth 100000 in
theorem lb_draft_append {κ : Cx} {g : Gx} {M : ST} (hκ : CF κ g RX3 cX3_append wq_X3_append 4 rm_draft_append) {post : ST → Prop} (hR : RtxV κ g 4 cX3_append M post) {X : ST} {p1 : Int32} {p2 : Int32} {p3 : Int32} (h : wp_draft_append X p1 p2 p3 post) : Jw κ g 4 X M [(0, .ref (g.2.1 10)), (1, .int p1), (2, .int p2), (3, .int p3)] 0 [] := by
  unfold wp_draft_append at h
  refine j_aload_n (pc' := 1) hκ 0 rfl rfl dX3_append_0 rfl ?_
  refine jg_10_3 (pc' := 4) hκ (mi inlX3) (fl_in hκ (mc wm_7_5)) dX3_append_1 rfl ?_
  refine j_sipush (pc' := 7) (v := 400) hκ (by decide) dX3_append_4 rfl ?_
  refine j_icmp_ge (tgt := 31) (pc' := 10) hκ dX3_append_7 (by decide) rfl (fun c => ?_) (fun c => ?_)
  · replace h := h.1 c
    exact hR _ _ _ dX3_append_31 h
  · replace h := h.2 c
    refine j_aload_n (pc' := 11) hκ 0 rfl rfl dX3_append_10 rfl ?_
    refine j_aload_n (pc' := 12) hκ 0 rfl rfl dX3_append_11 rfl ?_
    refine jg_10_3 (pc' := 15) hκ (mi inlX3) (fl_in hκ (mc wm_7_5)) dX3_append_12 rfl ?_
    refine j_iload_n (pc' := 16) hκ 1 rfl rfl dX3_append_15 rfl ?_
    refine j_iload_n (pc' := 17) hκ 2 rfl rfl dX3_append_16 rfl ?_
    refine j_iload_n (pc' := 18) hκ 3 rfl rfl dX3_append_17 rfl ?_
    refine jx_callVv (pc' := 21) hκ (c_draft_write (dg hκ) h) rfl rfl rfl (gV wm_39_9 wm_39_10 wm_39_11 wm_2_23 wm_39_12) hqV_X3_write ⟨Nat.le_of_ble_eq_true rfl, Nat.le_of_ble_eq_true rfl⟩ (wg_10 g _ _) rfl rfl rfl (Nat.le_of_ble_eq_true rfl) dX3_append_18 rfl (fun X1 h => ?_)
    refine j_aload_n (pc' := 22) hκ 0 rfl rfl dX3_append_21 rfl ?_
    refine j_dup (pc' := 23) hκ rfl dX3_append_22 rfl ?_
    refine jg_10_3 (pc' := 26) hκ (mi inlX3) (fl_in hκ (mc wm_7_5)) dX3_append_23 rfl ?_
    refine j_iconst (pc' := 27) (v := 1) hκ (by decide) dX3_append_26 rfl ?_
    refine j_iadd (pc' := 28) hκ dX3_append_27 rfl ?_
    refine jp_10_3 (pc' := 31) hκ (mi inlX3) (fl_in hκ (mc wm_7_5)) dX3_append_28 rfl ?_
    refine j_nmX (fun X3 eX3 => ?_)
    replace h := h X3 eX3
    exact hR _ _ _ dX3_append_31 h
theorem c_draft_append {g : Gx} (hg : Dg g) {X M : ST} {p1 : Int32} {p2 : Int32} {p3 : Int32} {post : ST → Prop} (h : wp_draft_append X p1 p2 p3 post) (l : Launch) : Met l yX3_append wq_X3_append rm_draft_append (va_Pc [.ref (g.2.1 10), .int p1, .int p2, .int p3] (PU g X M)) (va_Qv post (fun Y t => va_P g.1 vwCl (ww g Y M) t.heap) (wA g)) 0 0 (wA g) :=
  met_xv hg (by decide) rfl [.ref (g.2.1 10), .int p1, .int p2, .int p3] rfl (Nat.le_of_ble_eq_true rfl) (fun κ hκ hR => lb_draft_append hκ hR h) l
theorem wm_39_5 : Cond.methodLink RX1 130 yX3_append ∈ wAll := inr_39 (List.mem_of_getElem? (i := 5) rfl)
theorem wm_39_6 : Cond.instanceMethod yX3_append ∈ wAll := inr_39 (List.mem_of_getElem? (i := 6) rfl)
theorem wm_39_7 : Cond.selects RX3 yX3_append yX3_append ∈ wAll := inr_39 (List.mem_of_getElem? (i := 7) rfl)
theorem wm_39_8 : Cond.code yX3_append cX3_append 4 none ∈ wAll := inr_39 (List.mem_of_getElem? (i := 8) rfl)
theorem hqV_X3_append : yX3_append.cls = RX3 ∧ yX3_append.cls ≠ "java/lang/invoke/MethodHandle" ∧ yX3_append.cls ≠ "java/lang/invoke/VarHandle" ∧ (parseMethodDescriptor yX3_append.desc).map (fun d => d.parameters.length) = some 3 := by decide +kernel
abbrev rm_Judge_writeTwins_draft : Room := { frames := 2, cells := 0, slots := 0, locals := 47 }
def wp_Judge_writeTwins_draft_22_s (K47 : ST → Int32 → Int32 → Prop) (K64 : ST → Int32 → Prop) (post : Int32 → ST → Prop) (rec : ST → Int32 → Int32 → Int32 → Prop) (X : ST) (l2 : Int32) (l3 : Int32) (l4 : Int32) : Prop :=
  (l3 = 0 → (K64 X l2)) ∧ (¬ l3 = 0 → (((x_Lamps_count X) ≤ l4 → (K64 X l2)) ∧ (¬ (x_Lamps_count X) ≤ l4 → (wp_LR_isIn X l3 l4 (fun r4 X3 => (r4 = 0 → (rec X3 l2 l3 (l4 + 1))) ∧ (¬ r4 = 0 → (K47 X3 l2 l4)))))))
def wp_Judge_writeTwins_draft_22 (K47 : ST → Int32 → Int32 → Prop) (K64 : ST → Int32 → Prop) (post : Int32 → ST → Prop) : Nat → ST → Int32 → Int32 → Int32 → Prop
  | 0 => fun _ _ _ _ => False
  | n + 1 => wp_Judge_writeTwins_draft_22_s K47 K64 post (wp_Judge_writeTwins_draft_22 K47 K64 post n)
set_option maxHeartbeats 4000000 in
set_option maxRecDepth 100000 in
theorem lb_Judge_writeTwins_draft_22 {κ : Cx} {g : Gx} {M : ST} (hκ : CF κ g RX1 cX1_writeTwins wq_X1_writeTwins 5 rm_Judge_writeTwins_draft) {post : Int32 → ST → Prop} (hR : RtxZ κ g 5 cX1_writeTwins M post) {K47 : ST → Int32 → Int32 → Prop} {K64 : ST → Int32 → Prop} (hK47 : ∀ (X : ST) (l2 : Int32) (l4 : Int32), K47 X l2 l4 → Jw κ g 5 X M [(1, .ref (g.2.1 10)), (2, .int l2), (4, .int l4)] 47 []) (hK64 : ∀ (X : ST) (l2 : Int32), K64 X l2 → Jw κ g 5 X M [(0, .ref (g.2.1 8)), (1, .ref (g.2.1 10)), (2, .int l2)] 64 []) : ∀ (n : Nat) (X : ST) (l2 : Int32) (l3 : Int32) (l4 : Int32), wp_Judge_writeTwins_draft_22 K47 K64 post n X l2 l3 l4 → Jw κ g 5 X M [(0, .ref (g.2.1 8)), (1, .ref (g.2.1 10)), (2, .int l2), (3, .int l3), (4, .int l4)] 22 [] := by
  intro n
  induction n with
  | zero =>
    intro X l2 l3 l4  h
    exact h.elim
  | succ n ih =>
    intro X l2 l3 l4  h
    have h : wp_Judge_writeTwins_draft_22_s K47 K64 post (wp_Judge_writeTwins_draft_22 K47 K64 post n) X l2 l3 l4 := h
    unfold wp_Judge_writeTwins_draft_22_s at h
    refine j_iload_n (pc' := 23) hκ 3 rfl rfl dX1_writeTwins_22 rfl ?_
    refine j_if_eq (tgt := 64) (pc' := 26) hκ dX1_writeTwins_23 (by decide) rfl (fun c => ?_) (fun c => ?_)
    · replace h := h.1 c
      refine j_sub [0, 1, 2] rfl ?_
      exact hK64 _ _  h
    · replace h := h.2 c
      refine j_iload (pc' := 28) hκ 4 rfl dX1_writeTwins_26 rfl ?_
      refine j_aload_n (pc' := 29) hκ 0 rfl rfl dX1_writeTwins_28 rfl ?_
      refine jg_8_0 (pc' := 32) hκ (mi inlX1) (fl_in hκ (mc wm_6_20)) dX1_writeTwins_29 rfl ?_
      refine jg_3_9 (pc' := 35) hκ (mi inlX2) (fl_ne hκ 38 rfl) dX1_writeTwins_32 rfl ?_
      refine j_icmp_ge (tgt := 64) (pc' := 38) hκ dX1_writeTwins_35 (by decide) rfl (fun c => ?_) (fun c => ?_)
      · replace h := h.1 c
        refine j_sub [0, 1, 2] rfl ?_
        exact hK64 _ _  h
      · replace h := h.2 c
        refine j_iload_n (pc' := 39) hκ 3 rfl rfl dX1_writeTwins_38 rfl ?_
        refine j_iload (pc' := 41) hκ 4 rfl dX1_writeTwins_39 rfl ?_
        refine jx_callNi (pc' := 44) hκ (c_LR_isIn (dg hκ) h) rfl rfl rfl (gN wm_18_4) 7 rfl (mc wm_1_2) (mc wm_18_3) hqS_X9_isIn ⟨Nat.le_of_ble_eq_true rfl, Nat.le_of_ble_eq_true rfl⟩ rfl rfl (Nat.le_of_ble_eq_true rfl) dX1_writeTwins_41 rfl (fun r4 X3 h => ?_)
        refine j_if_eq (tgt := 58) (pc' := 47) hκ dX1_writeTwins_44 (by decide) rfl (fun c => ?_) (fun c => ?_)
        · replace h := h.1 c
          refine j_iinc (pc' := 61) (v := l4 + 1) (lv' := [(4, .int (l4 + 1)), (0, .ref (g.2.1 8)), (1, .ref (g.2.1 10)), (2, .int l2), (3, .int l3)]) hκ 4 rfl rfl (Nat.le_of_ble_eq_true rfl) rfl dX1_writeTwins_58 rfl ?_
          refine j_goto (pc' := 22) hκ (by decide) dX1_writeTwins_61 ?_
          refine j_sub [1, 2, 3, 4, 0] rfl ?_
          exact ih _ _ _ _  h
        · replace h := h.2 c
          refine j_sub [1, 2, 4] rfl ?_
          exact hK47 _ _ _  h
def wp_Judge_writeTwins_draft_2_s (K47 : ST → Int32 → Int32 → Prop) (K70 : ST → Prop) (post : Int32 → ST → Prop) (rec : ST → Int32 → Prop) (X : ST) (l2 : Int32) : Prop :=
  ((x_Lamps_count X) ≤ l2 → (K70 X)) ∧ (¬ (x_Lamps_count X) ≤ l2 → (wp_Judge_partedTwins X l2 (fun r2 X1 => ∃ n, wp_Judge_writeTwins_draft_22 K47 (fun X5 v6 => rec X5 (v6 + 1)) post n X1 l2 r2 0)))
def wp_Judge_writeTwins_draft_2 (K47 : ST → Int32 → Int32 → Prop) (K70 : ST → Prop) (post : Int32 → ST → Prop) : Nat → ST → Int32 → Prop
  | 0 => fun _ _ => False
  | n + 1 => wp_Judge_writeTwins_draft_2_s K47 K70 post (wp_Judge_writeTwins_draft_2 K47 K70 post n)
set_option maxHeartbeats 4000000 in
set_option maxRecDepth 100000 in
theorem lb_Judge_writeTwins_draft_2 {κ : Cx} {g : Gx} {M : ST} (hκ : CF κ g RX1 cX1_writeTwins wq_X1_writeTwins 5 rm_Judge_writeTwins_draft) {post : Int32 → ST → Prop} (hR : RtxZ κ g 5 cX1_writeTwins M post) {K47 : ST → Int32 → Int32 → Prop} {K70 : ST → Prop} (hK47 : ∀ (X : ST) (l2 : Int32) (l4 : Int32), K47 X l2 l4 → Jw κ g 5 X M [(1, .ref (g.2.1 10)), (2, .int l2), (4, .int l4)] 47 []) (hK70 : ∀ (X : ST), K70 X → Jw κ g 5 X M [] 70 []) : ∀ (n : Nat) (X : ST) (l2 : Int32), wp_Judge_writeTwins_draft_2 K47 K70 post n X l2 → Jw κ g 5 X M [(0, .ref (g.2.1 8)), (1, .ref (g.2.1 10)), (2, .int l2)] 2 [] := by
  intro n
  induction n with
  | zero =>
    intro X l2  h
    exact h.elim
  | succ n ih =>
    intro X l2  h
    have h : wp_Judge_writeTwins_draft_2_s K47 K70 post (wp_Judge_writeTwins_draft_2 K47 K70 post n) X l2 := h
    unfold wp_Judge_writeTwins_draft_2_s at h
    refine j_iload_n (pc' := 3) hκ 2 rfl rfl dX1_writeTwins_2 rfl ?_
    refine j_aload_n (pc' := 4) hκ 0 rfl rfl dX1_writeTwins_3 rfl ?_
    refine jg_8_0 (pc' := 7) hκ (mi inlX1) (fl_in hκ (mc wm_6_20)) dX1_writeTwins_4 rfl ?_
    refine jg_3_9 (pc' := 10) hκ (mi inlX2) (fl_ne hκ 38 rfl) dX1_writeTwins_7 rfl ?_
    refine j_icmp_ge (tgt := 70) (pc' := 13) hκ dX1_writeTwins_10 (by decide) rfl (fun c => ?_) (fun c => ?_)
    · replace h := h.1 c
      refine j_sub [] rfl ?_
      exact hK70 _  h
    · replace h := h.2 c
      refine j_aload_n (pc' := 14) hκ 0 rfl rfl dX1_writeTwins_13 rfl ?_
      refine j_iload_n (pc' := 15) hκ 2 rfl rfl dX1_writeTwins_14 rfl ?_
      refine jx_callVi (pc' := 18) hκ (c_Judge_partedTwins (dg hκ) h) rfl rfl rfl (gV wm_39_1 wm_39_2 wm_39_3 wm_2_19 wm_39_4) hqV_X1_partedTwins ⟨Nat.le_of_ble_eq_true rfl, Nat.le_of_ble_eq_true rfl⟩ (wg_8 g _ _) rfl rfl rfl (Nat.le_of_ble_eq_true rfl) dX1_writeTwins_15 rfl (fun r2 X1 h => ?_)
      refine j_istore_n (pc' := 19) (lv' := [(3, .int r2), (0, .ref (g.2.1 8)), (1, .ref (g.2.1 10)), (2, .int l2)]) hκ (Nat.le_of_ble_eq_true rfl) rfl rfl dX1_writeTwins_18 rfl ?_
      refine j_iconst (pc' := 20) (v := 0) hκ (by decide) dX1_writeTwins_19 rfl ?_
      refine j_istore (pc' := 22) (lv' := [(4, .int 0), (3, .int r2), (0, .ref (g.2.1 8)), (1, .ref (g.2.1 10)), (2, .int l2)]) hκ (Nat.le_of_ble_eq_true rfl) rfl dX1_writeTwins_20 rfl ?_
      obtain ⟨n, h⟩ := h
      refine j_sub [2, 3, 4, 1, 0] rfl ?_
      refine lb_Judge_writeTwins_draft_22 hκ hR hK47 ?_ n _ _ _ _  h
      intro X5 v6  h
      refine j_iinc (pc' := 67) (v := v6 + 1) (lv' := [(2, .int (v6 + 1)), (0, .ref (g.2.1 8)), (1, .ref (g.2.1 10))]) hκ 2 rfl rfl (Nat.le_of_ble_eq_true rfl) rfl dX1_writeTwins_64 rfl ?_
      refine j_goto (pc' := 2) hκ (by decide) dX1_writeTwins_67 ?_
      refine j_sub [1, 2, 0] rfl ?_
      exact ih _ _  h
def wp_Judge_writeTwins_draft (X : ST) (post : Int32 → ST → Prop) : Prop :=
  ∃ n, wp_Judge_writeTwins_draft_2 (fun X7 v8 v9 => wp_draft_append X7 6 v8 v9 (fun X10 => post 1 X10)) (fun X12 => post 0 X12) post n X 0
set_option maxHeartbeats 4000000 in
set_option maxRecDepth 100000 in
theorem lb_Judge_writeTwins_draft {κ : Cx} {g : Gx} {M : ST} (hκ : CF κ g RX1 cX1_writeTwins wq_X1_writeTwins 5 rm_Judge_writeTwins_draft) {post : Int32 → ST → Prop} (hR : RtxZ κ g 5 cX1_writeTwins M post) {X : ST} (h : wp_Judge_writeTwins_draft X post) : Jw κ g 5 X M [(0, .ref (g.2.1 8)), (1, .ref (g.2.1 10))] 0 [] := by
  unfold wp_Judge_writeTwins_draft at h
  refine j_iconst (pc' := 1) (v := 0) hκ (by decide) dX1_writeTwins_0 rfl ?_
  refine j_istore_n (pc' := 2) (lv' := [(2, .int 0), (0, .ref (g.2.1 8)), (1, .ref (g.2.1 10))]) hκ (Nat.le_of_ble_eq_true rfl) rfl rfl dX1_writeTwins_1 rfl ?_
  obtain ⟨n, h⟩ := h
  refine j_sub [1, 2, 0] rfl ?_
  refine lb_Judge_writeTwins_draft_2 hκ hR ?_ ?_ n _ _  h
  · intro X7 v8 v9  h
    refine j_aload_n (pc' := 48) hκ 0 rfl rfl dX1_writeTwins_47 rfl ?_
    refine j_bipush (pc' := 50) (v := 6) hκ (by decide) dX1_writeTwins_48 rfl ?_
    refine j_iload_n (pc' := 51) hκ 1 rfl rfl dX1_writeTwins_50 rfl ?_
    refine j_iload (pc' := 53) hκ 2 rfl dX1_writeTwins_51 rfl ?_
    refine jx_callVv (pc' := 56) hκ (c_draft_append (dg hκ) h) rfl rfl rfl (gV wm_39_5 wm_39_6 wm_39_7 wm_2_23 wm_39_8) hqV_X3_append ⟨Nat.le_of_ble_eq_true rfl, Nat.le_of_ble_eq_true rfl⟩ (wg_10 g _ _) rfl rfl rfl (Nat.le_of_ble_eq_true rfl) dX1_writeTwins_53 rfl (fun X10 h => ?_)
    refine j_iconst (pc' := 57) (v := 1) hκ (by decide) dX1_writeTwins_56 rfl ?_
    exact hR _ _ _ _ dX1_writeTwins_57 (Or.inr rfl) h
  · intro X12  h
    refine j_iconst (pc' := 71) (v := 0) hκ (by decide) dX1_writeTwins_70 rfl ?_
    exact hR _ _ _ _ dX1_writeTwins_71 (Or.inl rfl) h
theorem c_Judge_writeTwins_draft {g : Gx} (hg : Dg g) {X M : ST} {post : Int32 → ST → Prop} (h : wp_Judge_writeTwins_draft X post) (l : Launch) : Met l yX1_writeTwins wq_X1_writeTwins rm_Judge_writeTwins_draft (va_Pc [.ref (g.2.1 8), .ref (g.2.1 10)] (PU g X M)) (va_Qi post (fun Y t => va_P g.1 vwCl (ww g Y M) t.heap) (wA g)) 0 0 (wA g) :=
  met_xz hg (by decide) rfl [.ref (g.2.1 8), .ref (g.2.1 10)] rfl (Nat.le_of_ble_eq_true rfl) (fun κ hκ hR => lb_Judge_writeTwins_draft hκ hR h) l
theorem wm_38_21 : Cond.methodLink RX1 123 yX1_writeTwins ∈ wAll := inr_38 (List.mem_of_getElem? (i := 21) rfl)
theorem wm_38_22 : Cond.instanceMethod yX1_writeTwins ∈ wAll := inr_38 (List.mem_of_getElem? (i := 22) rfl)
theorem wm_38_23 : Cond.selects RX1 yX1_writeTwins yX1_writeTwins ∈ wAll := inr_38 (List.mem_of_getElem? (i := 23) rfl)
theorem wm_39_0 : Cond.code yX1_writeTwins cX1_writeTwins 5 (some .boolean) ∈ wAll := inr_39 (List.mem_of_getElem? (i := 0) rfl)
theorem hqV_X1_writeTwins : yX1_writeTwins.cls = RX1 ∧ yX1_writeTwins.cls ≠ "java/lang/invoke/MethodHandle" ∧ yX1_writeTwins.cls ≠ "java/lang/invoke/VarHandle" ∧ (parseMethodDescriptor yX1_writeTwins.desc).map (fun d => d.parameters.length) = some 1 := by decide +kernel
theorem wm_39_17 : Cond.methodLink RX1 64 yX2_isLive ∈ wAll := inr_39 (List.mem_of_getElem? (i := 17) rfl)
theorem wm_39_22 : Cond.methodLink RX1 102 yX2_liveCount ∈ wAll := inr_39 (List.mem_of_getElem? (i := 22) rfl)
theorem wm_39_23 : Cond.methodLink RX1 106 yJ6_bitCount_0f7a4 ∈ wAll := inr_39 (List.mem_of_getElem? (i := 23) rfl)
abbrev rm_Case_ringOf : Room := { frames := 1, cells := 0, slots := 0, locals := 21 }
def wp_Case_ringOf_26_s (K58 : ST → Int32 → Int32 → Int32 → Prop) (post : Int32 → ST → Prop) (rec : ST → Int32 → Int32 → Int32 → Int32 → Prop) (X : ST) (l2 : Int32) (l3 : Int32) (l4 : Int32) (l5 : Int32) : Prop :=
  (12 ≤ l5 → (K58 X l2 l3 l4)) ∧ (¬ 12 ≤ l5 → (wp_LR_isIn X l3 l5 (fun r3 X2 => (r3 = 0 → (rec X2 l2 l3 l4 (l5 + 1))) ∧ (¬ r3 = 0 → (vp_in l5 12 ∧ (∀ v4 : Int32, v4 = l2 ||| (x_Case_joined X2 l5.toNatClampNeg) → rec X2 v4 l3 l4 (l5 + 1)))))))
def wp_Case_ringOf_26 (K58 : ST → Int32 → Int32 → Int32 → Prop) (post : Int32 → ST → Prop) : Nat → ST → Int32 → Int32 → Int32 → Int32 → Prop
  | 0 => fun _ _ _ _ _ => False
  | n + 1 => wp_Case_ringOf_26_s K58 post (wp_Case_ringOf_26 K58 post n)
set_option maxHeartbeats 4000000 in
set_option maxRecDepth 100000 in
theorem lb_Case_ringOf_26 {κ : Cx} {g : Gx} {M : ST} (hκ : CF κ g RX0 cX0_ringOf wq_X0_ringOf 6 rm_Case_ringOf) {post : Int32 → ST → Prop} (hR : RtxI κ g 6 cX0_ringOf M post) {K58 : ST → Int32 → Int32 → Int32 → Prop} (hK58 : ∀ (X : ST) (l2 : Int32) (l3 : Int32) (l4 : Int32), K58 X l2 l3 l4 → Jw κ g 6 X M [(0, .ref (g.2.1 6)), (2, .int l2), (3, .int l3), (4, .int l4)] 58 []) : ∀ (n : Nat) (X : ST) (l2 : Int32) (l3 : Int32) (l4 : Int32) (l5 : Int32), wp_Case_ringOf_26 K58 post n X l2 l3 l4 l5 → Jw κ g 6 X M [(0, .ref (g.2.1 6)), (2, .int l2), (3, .int l3), (4, .int l4), (5, .int l5)] 26 [] := by
  intro n
  induction n with
  | zero =>
    intro X l2 l3 l4 l5  h
    exact h.elim
  | succ n ih =>
    intro X l2 l3 l4 l5  h
    have h : wp_Case_ringOf_26_s K58 post (wp_Case_ringOf_26 K58 post n) X l2 l3 l4 l5 := h
    unfold wp_Case_ringOf_26_s at h
    refine j_iload (pc' := 28) hκ 4 rfl dX0_ringOf_26 rfl ?_
    refine j_bipush (pc' := 30) (v := 12) hκ (by decide) dX0_ringOf_28 rfl ?_
    refine j_icmp_ge (tgt := 58) (pc' := 33) hκ dX0_ringOf_30 (by decide) rfl (fun c => ?_) (fun c => ?_)
    · replace h := h.1 c
      refine j_sub [0, 1, 2, 3] rfl ?_
      exact hK58 _ _ _ _  h
    · replace h := h.2 c
      refine j_iload_n (pc' := 34) hκ 2 rfl rfl dX0_ringOf_33 rfl ?_
      refine j_iload (pc' := 36) hκ 4 rfl dX0_ringOf_34 rfl ?_
      refine jx_callNi (pc' := 39) hκ (c_LR_isIn (dg hκ) h) rfl rfl rfl (gN wm_18_4) 3 rfl (mc wm_1_2) (mc wm_18_3) hqS_X9_isIn ⟨Nat.le_of_ble_eq_true rfl, Nat.le_of_ble_eq_true rfl⟩ rfl rfl (Nat.le_of_ble_eq_true rfl) dX0_ringOf_36 rfl (fun r3 X2 h => ?_)
      refine j_if_eq (tgt := 52) (pc' := 42) hκ dX0_ringOf_39 (by decide) rfl (fun c => ?_) (fun c => ?_)
      · replace h := h.1 c
        refine j_iinc (pc' := 55) (v := l5 + 1) (lv' := [(5, .int (l5 + 1)), (0, .ref (g.2.1 6)), (2, .int l2), (3, .int l3), (4, .int l4)]) hκ 4 rfl rfl (Nat.le_of_ble_eq_true rfl) rfl dX0_ringOf_52 rfl ?_
        refine j_goto (pc' := 26) hκ (by decide) dX0_ringOf_55 ?_
        refine j_sub [1, 2, 3, 4, 0] rfl ?_
        exact ih _ _ _ _ _  h
      · replace h := h.2 c
        refine j_iload_n (pc' := 43) hκ 1 rfl rfl dX0_ringOf_42 rfl ?_
        refine j_aload_n (pc' := 44) hκ 0 rfl rfl dX0_ringOf_43 rfl ?_
        refine jg_6_0 (pc' := 47) hκ (mi inlX0) (fl_in hκ (mc wm_5_21)) dX0_ringOf_44 rfl ?_
        refine j_iload (pc' := 49) hκ 4 rfl dX0_ringOf_47 rfl ?_
        refine jx_iald (pc' := 50) hκ (ah_34 g) h.1 dX0_ringOf_49 rfl ?_
        replace h := h.2
        refine j_ior (pc' := 51) hκ dX0_ringOf_50 rfl ?_
        refine j_topi (fun v4 ev4 => ?_)
        replace h := h v4 ev4
        refine j_istore_n (pc' := 52) (lv' := [(2, .int v4), (0, .ref (g.2.1 6)), (3, .int l3), (4, .int l4), (5, .int l5)]) hκ (Nat.le_of_ble_eq_true rfl) rfl rfl dX0_ringOf_51 rfl ?_
        refine j_iinc (pc' := 55) (v := l5 + 1) (lv' := [(5, .int (l5 + 1)), (2, .int v4), (0, .ref (g.2.1 6)), (3, .int l3), (4, .int l4)]) hκ 4 rfl rfl (Nat.le_of_ble_eq_true rfl) rfl dX0_ringOf_52 rfl ?_
        refine j_goto (pc' := 26) hκ (by decide) dX0_ringOf_55 ?_
        refine j_sub [2, 1, 3, 4, 0] rfl ?_
        exact ih _ _ _ _ _  h
def wp_Case_ringOf_9_s (K64 : ST → Int32 → Prop) (post : Int32 → ST → Prop) (rec : ST → Int32 → Int32 → Int32 → Prop) (X : ST) (l2 : Int32) (l3 : Int32) (l4 : Int32) : Prop :=
  (12 ≤ l4 → (K64 X l2)) ∧ (¬ 12 ≤ l4 → ((l2 = l3 → (K64 X l2)) ∧ (¬ l2 = l3 → (∃ n, wp_Case_ringOf_26 (fun X5 v6 v7 v8 => rec X5 v6 v7 (v8 + 1)) post n X l2 l2 l4 0))))
def wp_Case_ringOf_9 (K64 : ST → Int32 → Prop) (post : Int32 → ST → Prop) : Nat → ST → Int32 → Int32 → Int32 → Prop
  | 0 => fun _ _ _ _ => False
  | n + 1 => wp_Case_ringOf_9_s K64 post (wp_Case_ringOf_9 K64 post n)
set_option maxHeartbeats 4000000 in
set_option maxRecDepth 100000 in
theorem lb_Case_ringOf_9 {κ : Cx} {g : Gx} {M : ST} (hκ : CF κ g RX0 cX0_ringOf wq_X0_ringOf 6 rm_Case_ringOf) {post : Int32 → ST → Prop} (hR : RtxI κ g 6 cX0_ringOf M post) {K64 : ST → Int32 → Prop} (hK64 : ∀ (X : ST) (l2 : Int32), K64 X l2 → Jw κ g 6 X M [(2, .int l2)] 64 []) : ∀ (n : Nat) (X : ST) (l2 : Int32) (l3 : Int32) (l4 : Int32), wp_Case_ringOf_9 K64 post n X l2 l3 l4 → Jw κ g 6 X M [(0, .ref (g.2.1 6)), (2, .int l2), (3, .int l3), (4, .int l4)] 9 [] := by
  intro n
  induction n with
  | zero =>
    intro X l2 l3 l4  h
    exact h.elim
  | succ n ih =>
    intro X l2 l3 l4  h
    have h : wp_Case_ringOf_9_s K64 post (wp_Case_ringOf_9 K64 post n) X l2 l3 l4 := h
    unfold wp_Case_ringOf_9_s at h
    refine j_iload (pc' := 11) hκ 3 rfl dX0_ringOf_9 rfl ?_
    refine j_bipush (pc' := 13) (v := 12) hκ (by decide) dX0_ringOf_11 rfl ?_
    refine j_icmp_ge (tgt := 64) (pc' := 16) hκ dX0_ringOf_13 (by decide) rfl (fun c => ?_) (fun c => ?_)
    · replace h := h.1 c
      refine j_sub [1] rfl ?_
      exact hK64 _ _  h
    · replace h := h.2 c
      refine j_iload_n (pc' := 17) hκ 1 rfl rfl dX0_ringOf_16 rfl ?_
      refine j_iload_n (pc' := 18) hκ 2 rfl rfl dX0_ringOf_17 rfl ?_
      refine j_icmp_eq (tgt := 64) (pc' := 21) hκ dX0_ringOf_18 (by decide) rfl (fun c => ?_) (fun c => ?_)
      · replace h := h.1 c
        refine j_sub [1] rfl ?_
        exact hK64 _ _  h
      · replace h := h.2 c
        refine j_iload_n (pc' := 22) hκ 1 rfl rfl dX0_ringOf_21 rfl ?_
        refine j_istore_n (pc' := 23) (lv' := [(3, .int l2), (0, .ref (g.2.1 6)), (2, .int l2), (4, .int l4)]) hκ (Nat.le_of_ble_eq_true rfl) rfl rfl dX0_ringOf_22 rfl ?_
        refine j_iconst (pc' := 24) (v := 0) hκ (by decide) dX0_ringOf_23 rfl ?_
        refine j_istore (pc' := 26) (lv' := [(5, .int 0), (3, .int l2), (0, .ref (g.2.1 6)), (2, .int l2), (4, .int l4)]) hκ (Nat.le_of_ble_eq_true rfl) rfl dX0_ringOf_24 rfl ?_
        obtain ⟨n, h⟩ := h
        refine j_sub [2, 3, 1, 4, 0] rfl ?_
        refine lb_Case_ringOf_26 hκ hR ?_ n _ _ _ _ _  h
        intro X5 v6 v7 v8  h
        refine j_iinc (pc' := 61) (v := v8 + 1) (lv' := [(4, .int (v8 + 1)), (0, .ref (g.2.1 6)), (2, .int v6), (3, .int v7)]) hκ 3 rfl rfl (Nat.le_of_ble_eq_true rfl) rfl dX0_ringOf_58 rfl ?_
        refine j_goto (pc' := 9) hκ (by decide) dX0_ringOf_61 ?_
        refine j_sub [1, 2, 3, 0] rfl ?_
        exact ih _ _ _ _  h
def wp_Case_ringOf (X : ST) (p1 : Int32) (post : Int32 → ST → Prop) : Prop :=
  ∀ v1 : Int32, v1 = (1 : Int32) <<< (p1 &&& 31) → ∃ n, wp_Case_ringOf_9 (fun X9 v10 => post v10 X9) post n X v1 0 0
set_option maxHeartbeats 4000000 in
set_option maxRecDepth 100000 in
theorem lb_Case_ringOf {κ : Cx} {g : Gx} {M : ST} (hκ : CF κ g RX0 cX0_ringOf wq_X0_ringOf 6 rm_Case_ringOf) {post : Int32 → ST → Prop} (hR : RtxI κ g 6 cX0_ringOf M post) {X : ST} {p1 : Int32} (h : wp_Case_ringOf X p1 post) : Jw κ g 6 X M [(0, .ref (g.2.1 6)), (1, .int p1)] 0 [] := by
  unfold wp_Case_ringOf at h
  refine j_iconst (pc' := 1) (v := 1) hκ (by decide) dX0_ringOf_0 rfl ?_
  refine j_iload_n (pc' := 2) hκ 1 rfl rfl dX0_ringOf_1 rfl ?_
  refine j_ishl (pc' := 3) hκ dX0_ringOf_2 rfl ?_
  refine j_topi (fun v1 ev1 => ?_)
  replace h := h v1 ev1
  refine j_istore_n (pc' := 4) (lv' := [(2, .int v1), (0, .ref (g.2.1 6)), (1, .int p1)]) hκ (Nat.le_of_ble_eq_true rfl) rfl rfl dX0_ringOf_3 rfl ?_
  refine j_iconst (pc' := 5) (v := 0) hκ (by decide) dX0_ringOf_4 rfl ?_
  refine j_istore_n (pc' := 6) (lv' := [(3, .int 0), (2, .int v1), (0, .ref (g.2.1 6)), (1, .int p1)]) hκ (Nat.le_of_ble_eq_true rfl) rfl rfl dX0_ringOf_5 rfl ?_
  refine j_iconst (pc' := 7) (v := 0) hκ (by decide) dX0_ringOf_6 rfl ?_
  refine j_istore (pc' := 9) (lv' := [(4, .int 0), (3, .int 0), (2, .int v1), (0, .ref (g.2.1 6)), (1, .int p1)]) hκ (Nat.le_of_ble_eq_true rfl) rfl dX0_ringOf_7 rfl ?_
  obtain ⟨n, h⟩ := h
  refine j_sub [3, 2, 1, 0] rfl ?_
  refine lb_Case_ringOf_9 hκ hR ?_ n _ _ _ _  h
  intro X9 v10  h
  refine j_iload_n (pc' := 65) hκ 0 rfl rfl dX0_ringOf_64 rfl ?_
  exact hR _ _ _ _ dX0_ringOf_65 h
theorem c_Case_ringOf {g : Gx} (hg : Dg g) {X M : ST} {p1 : Int32} {post : Int32 → ST → Prop} (h : wp_Case_ringOf X p1 post) (l : Launch) : Met l yX0_ringOf wq_X0_ringOf rm_Case_ringOf (va_Pc [.ref (g.2.1 6), .int p1] (PU g X M)) (va_Qi post (fun Y t => va_P g.1 vwCl (ww g Y M) t.heap) (wA g)) 0 0 (wA g) :=
  met_xi hg (by decide) rfl [.ref (g.2.1 6), .int p1] rfl (Nat.le_of_ble_eq_true rfl) (fun κ hκ hR => lb_Case_ringOf hκ hR h) l
theorem wm_40_0 : Cond.methodLink RX1 114 yX0_ringOf ∈ wAll := inr_40 (List.mem_of_getElem? (i := 0) rfl)
theorem wm_40_1 : Cond.instanceMethod yX0_ringOf ∈ wAll := inr_40 (List.mem_of_getElem? (i := 1) rfl)
theorem wm_40_2 : Cond.selects RX0 yX0_ringOf yX0_ringOf ∈ wAll := inr_40 (List.mem_of_getElem? (i := 2) rfl)
theorem wm_40_3 : Cond.code yX0_ringOf cX0_ringOf 6 (some .int) ∈ wAll := inr_40 (List.mem_of_getElem? (i := 3) rfl)
theorem hqV_X0_ringOf : yX0_ringOf.cls = RX0 ∧ yX0_ringOf.cls ≠ "java/lang/invoke/MethodHandle" ∧ yX0_ringOf.cls ≠ "java/lang/invoke/VarHandle" ∧ (parseMethodDescriptor yX0_ringOf.desc).map (fun d => d.parameters.length) = some 1 := by decide +kernel
abbrev rm_Judge_isRing : Room := { frames := 1, cells := 0, slots := 0, locals := 21 }
def wp_Judge_isRing_2_s (K32 : ST → Prop) (K40 : ST → Int32 → Prop) (post : Int32 → ST → Prop) (rec : ST → Int32 → Int32 → Prop) (X : ST) (l1 : Int32) (l2 : Int32) : Prop :=
  (12 ≤ l2 → (K40 X l1)) ∧ (¬ 12 ≤ l2 → (wp_LR_isIn X l1 l2 (fun r2 X1 => (r2 = 0 → (rec X1 l1 (l2 + 1))) ∧ (¬ r2 = 0 → (vp_in l2 12 ∧ (wp_int_bitCount X1 (x_Case_joined X1 l2.toNatClampNeg) (fun r4 X3 => (r4 = 2 → (rec X3 l1 (l2 + 1))) ∧ (¬ r4 = 2 → (K32 X3)))))))))
def wp_Judge_isRing_2 (K32 : ST → Prop) (K40 : ST → Int32 → Prop) (post : Int32 → ST → Prop) : Nat → ST → Int32 → Int32 → Prop
  | 0 => fun _ _ _ => False
  | n + 1 => wp_Judge_isRing_2_s K32 K40 post (wp_Judge_isRing_2 K32 K40 post n)
set_option maxHeartbeats 4000000 in
set_option maxRecDepth 100000 in
theorem lb_Judge_isRing_2 {κ : Cx} {g : Gx} {M : ST} (hκ : CF κ g RX1 cX1_isRing wq_X1_isRing 3 rm_Judge_isRing) {post : Int32 → ST → Prop} (hR : RtxZ κ g 3 cX1_isRing M post) {K32 : ST → Prop} {K40 : ST → Int32 → Prop} (hK32 : ∀ (X : ST), K32 X → Jw κ g 3 X M [] 32 []) (hK40 : ∀ (X : ST) (l1 : Int32), K40 X l1 → Jw κ g 3 X M [(0, .ref (g.2.1 8)), (1, .int l1)] 40 []) : ∀ (n : Nat) (X : ST) (l1 : Int32) (l2 : Int32), wp_Judge_isRing_2 K32 K40 post n X l1 l2 → Jw κ g 3 X M [(0, .ref (g.2.1 8)), (1, .int l1), (2, .int l2)] 2 [] := by
  intro n
  induction n with
  | zero =>
    intro X l1 l2  h
    exact h.elim
  | succ n ih =>
    intro X l1 l2  h
    have h : wp_Judge_isRing_2_s K32 K40 post (wp_Judge_isRing_2 K32 K40 post n) X l1 l2 := h
    unfold wp_Judge_isRing_2_s at h
    refine j_iload_n (pc' := 3) hκ 2 rfl rfl dX1_isRing_2 rfl ?_
    refine j_bipush (pc' := 5) (v := 12) hκ (by decide) dX1_isRing_3 rfl ?_
    refine j_icmp_ge (tgt := 40) (pc' := 8) hκ dX1_isRing_5 (by decide) rfl (fun c => ?_) (fun c => ?_)
    · replace h := h.1 c
      refine j_sub [0, 1] rfl ?_
      exact hK40 _ _  h
    · replace h := h.2 c
      refine j_iload_n (pc' := 9) hκ 1 rfl rfl dX1_isRing_8 rfl ?_
      refine j_iload_n (pc' := 10) hκ 2 rfl rfl dX1_isRing_9 rfl ?_
      refine jx_callNi (pc' := 13) hκ (c_LR_isIn (dg hκ) h) rfl rfl rfl (gN wm_18_4) 7 rfl (mc wm_1_2) (mc wm_18_3) hqS_X9_isIn ⟨Nat.le_of_ble_eq_true rfl, Nat.le_of_ble_eq_true rfl⟩ rfl rfl (Nat.le_of_ble_eq_true rfl) dX1_isRing_10 rfl (fun r2 X1 h => ?_)
      refine j_if_eq (tgt := 34) (pc' := 16) hκ dX1_isRing_13 (by decide) rfl (fun c => ?_) (fun c => ?_)
      · replace h := h.1 c
        refine j_iinc (pc' := 37) (v := l2 + 1) (lv' := [(2, .int (l2 + 1)), (0, .ref (g.2.1 8)), (1, .int l1)]) hκ 2 rfl rfl (Nat.le_of_ble_eq_true rfl) rfl dX1_isRing_34 rfl ?_
        refine j_goto (pc' := 2) hκ (by decide) dX1_isRing_37 ?_
        refine j_sub [1, 2, 0] rfl ?_
        exact ih _ _ _  h
      · replace h := h.2 c
        refine j_aload_n (pc' := 17) hκ 0 rfl rfl dX1_isRing_16 rfl ?_
        refine jg_8_1 (pc' := 20) hκ (mi inlX1) (fl_in hκ (mc wm_6_21)) dX1_isRing_17 rfl ?_
        refine jg_6_0 (pc' := 23) hκ (mi inlX0) (fl_ne hκ 36 rfl) dX1_isRing_20 rfl ?_
        refine j_iload_n (pc' := 24) hκ 2 rfl rfl dX1_isRing_23 rfl ?_
        refine jx_iald (pc' := 25) hκ (ah_34 g) h.1 dX1_isRing_24 rfl ?_
        replace h := h.2
        refine jx_callSi (pc' := 28) hκ (c_int_bitCount (dg hκ) h) rfl rfl rfl (gS wm_39_23 wm_21_0 wm_21_1 wm_21_2) hqS_J6_bitCount_0f7a4 ⟨Nat.le_of_ble_eq_true rfl, Nat.le_of_ble_eq_true rfl⟩ rfl rfl (Nat.le_of_ble_eq_true rfl) dX1_isRing_25 rfl (fun r4 X3 h => ?_)
        refine j_iconst (pc' := 29) (v := 2) hκ (by decide) dX1_isRing_28 rfl ?_
        refine j_icmp_eq (tgt := 34) (pc' := 32) hκ dX1_isRing_29 (by decide) rfl (fun c => ?_) (fun c => ?_)
        · replace h := h.1 c
          refine j_iinc (pc' := 37) (v := l2 + 1) (lv' := [(2, .int (l2 + 1)), (0, .ref (g.2.1 8)), (1, .int l1)]) hκ 2 rfl rfl (Nat.le_of_ble_eq_true rfl) rfl dX1_isRing_34 rfl ?_
          refine j_goto (pc' := 2) hκ (by decide) dX1_isRing_37 ?_
          refine j_sub [1, 2, 0] rfl ?_
          exact ih _ _ _  h
        · replace h := h.2 c
          refine j_sub [] rfl ?_
          exact hK32 _  h
def wp_Judge_isRing (X : ST) (p1 : Int32) (post : Int32 → ST → Prop) : Prop :=
  ∃ n, wp_Judge_isRing_2 (fun X5 => post 0 X5) (fun X6 v7 => (v7 = (x_Lamps_live X6) → (post 0 X6)) ∧ (¬ v7 = (x_Lamps_live X6) → (post 1 X6))) post n X p1 0
set_option maxHeartbeats 4000000 in
set_option maxRecDepth 100000 in
theorem lb_Judge_isRing {κ : Cx} {g : Gx} {M : ST} (hκ : CF κ g RX1 cX1_isRing wq_X1_isRing 3 rm_Judge_isRing) {post : Int32 → ST → Prop} (hR : RtxZ κ g 3 cX1_isRing M post) {X : ST} {p1 : Int32} (h : wp_Judge_isRing X p1 post) : Jw κ g 3 X M [(0, .ref (g.2.1 8)), (1, .int p1)] 0 [] := by
  unfold wp_Judge_isRing at h
  refine j_iconst (pc' := 1) (v := 0) hκ (by decide) dX1_isRing_0 rfl ?_
  refine j_istore_n (pc' := 2) (lv' := [(2, .int 0), (0, .ref (g.2.1 8)), (1, .int p1)]) hκ (Nat.le_of_ble_eq_true rfl) rfl rfl dX1_isRing_1 rfl ?_
  obtain ⟨n, h⟩ := h
  refine j_sub [1, 2, 0] rfl ?_
  refine lb_Judge_isRing_2 hκ hR ?_ ?_ n _ _ _  h
  · intro X5  h
    refine j_iconst (pc' := 33) (v := 0) hκ (by decide) dX1_isRing_32 rfl ?_
    exact hR _ _ _ _ dX1_isRing_33 (Or.inl rfl) h
  · intro X6 v7  h
    refine j_iload_n (pc' := 41) hκ 1 rfl rfl dX1_isRing_40 rfl ?_
    refine j_aload_n (pc' := 42) hκ 0 rfl rfl dX1_isRing_41 rfl ?_
    refine jg_8_0 (pc' := 45) hκ (mi inlX1) (fl_in hκ (mc wm_6_20)) dX1_isRing_42 rfl ?_
    refine jg_3_8 (pc' := 48) hκ (mi inlX2) (fl_ne hκ 37 rfl) dX1_isRing_45 rfl ?_
    refine j_icmp_eq (tgt := 55) (pc' := 51) hκ dX1_isRing_48 (by decide) rfl (fun c => ?_) (fun c => ?_)
    · replace h := h.1 c
      refine j_iconst (pc' := 56) (v := 0) hκ (by decide) dX1_isRing_55 rfl ?_
      exact hR _ _ _ _ dX1_isRing_56 (Or.inl rfl) h
    · replace h := h.2 c
      refine j_iconst (pc' := 52) (v := 1) hκ (by decide) dX1_isRing_51 rfl ?_
      refine j_goto (pc' := 56) hκ (by decide) dX1_isRing_52 ?_
      exact hR _ _ _ _ dX1_isRing_56 (Or.inr rfl) h
theorem c_Judge_isRing {g : Gx} (hg : Dg g) {X M : ST} {p1 : Int32} {post : Int32 → ST → Prop} (h : wp_Judge_isRing X p1 post) (l : Launch) : Met l yX1_isRing wq_X1_isRing rm_Judge_isRing (va_Pc [.ref (g.2.1 8), .int p1] (PU g X M)) (va_Qi post (fun Y t => va_P g.1 vwCl (ww g Y M) t.heap) (wA g)) 0 0 (wA g) :=
  met_xz hg (by decide) rfl [.ref (g.2.1 8), .int p1] rfl (Nat.le_of_ble_eq_true rfl) (fun κ hκ hR => lb_Judge_isRing hκ hR h) l
theorem wm_40_4 : Cond.methodLink RX1 117 yX1_isRing ∈ wAll := inr_40 (List.mem_of_getElem? (i := 4) rfl)
theorem wm_40_5 : Cond.instanceMethod yX1_isRing ∈ wAll := inr_40 (List.mem_of_getElem? (i := 5) rfl)
theorem wm_40_6 : Cond.selects RX1 yX1_isRing yX1_isRing ∈ wAll := inr_40 (List.mem_of_getElem? (i := 6) rfl)
theorem wm_40_7 : Cond.code yX1_isRing cX1_isRing 3 (some .boolean) ∈ wAll := inr_40 (List.mem_of_getElem? (i := 7) rfl)
theorem hqV_X1_isRing : yX1_isRing.cls = RX1 ∧ yX1_isRing.cls ≠ "java/lang/invoke/MethodHandle" ∧ yX1_isRing.cls ≠ "java/lang/invoke/VarHandle" ∧ (parseMethodDescriptor yX1_isRing.desc).map (fun d => d.parameters.length) = some 1 := by decide +kernel
abbrev rm_Judge_standsAlone : Room := { frames := 2, cells := 0, slots := 0, locals := 46 }
def wp_Judge_standsAlone (X : ST) (p1 : Int32) (p2 : Int32) (post : Int32 → ST → Prop) : Prop :=
  (p1 = 3 → (wp_Lamps_liveCount X (fun r2 X1 => vp_in p2 12 ∧ (wp_int_bitCount X1 (x_Case_parted X1 p2.toNatClampNeg) (fun r4 X3 => (2 ≤ ((r2 - 1) - r4) → (post 0 X3)) ∧ (¬ 2 ≤ ((r2 - 1) - r4) → (post 1 X3))))))) ∧ (¬ p1 = 3 → ((p1 = 4 → (vp_in p2 12 ∧ (wp_int_bitCount X (x_Case_joined X p2.toNatClampNeg) (fun r6 X5 => (r6 ≤ 2 → (post 0 X5)) ∧ (¬ r6 ≤ 2 → (post 1 X5)))))) ∧ (¬ p1 = 4 → ((p1 = 5 → (wp_Case_ringOf X p2 (fun r8 X7 => wp_Judge_isRing X7 r8 (fun r10 X9 => bz r10 ∧ post r10 X9)))) ∧ (¬ p1 = 5 → (post 0 X))))))
set_option maxHeartbeats 4000000 in
set_option maxRecDepth 100000 in
theorem lb_Judge_standsAlone {κ : Cx} {g : Gx} {M : ST} (hκ : CF κ g RX1 cX1_standsAlone wq_X1_standsAlone 3 rm_Judge_standsAlone) {post : Int32 → ST → Prop} (hR : RtxZ κ g 3 cX1_standsAlone M post) {X : ST} {p1 : Int32} {p2 : Int32} (h : wp_Judge_standsAlone X p1 p2 post) : Jw κ g 3 X M [(0, .ref (g.2.1 8)), (1, .int p1), (2, .int p2)] 0 [] := by
  unfold wp_Judge_standsAlone at h
  refine j_iload_n (pc' := 1) hκ 1 rfl rfl dX1_standsAlone_0 rfl ?_
  by_cases c0 : p1 = 3
  · replace h := h.1 c0
    refine j_tabEq (v := 3) (tgt := 28) hκ dX1_standsAlone_1 c0 (by decide) (by decide) rfl (by decide) ?_
    refine j_aload_n (pc' := 29) hκ 0 rfl rfl dX1_standsAlone_28 rfl ?_
    refine jg_8_0 (pc' := 32) hκ (mi inlX1) (fl_in hκ (mc wm_6_20)) dX1_standsAlone_29 rfl ?_
    refine jx_callVi (pc' := 35) hκ (c_Lamps_liveCount (dg hκ) h) rfl rfl rfl (gV wm_39_22 wm_20_20 wm_20_21 wm_1_23 wm_20_22) hqV_X2_liveCount ⟨Nat.le_of_ble_eq_true rfl, Nat.le_of_ble_eq_true rfl⟩ (wg_3 g _ _) rfl rfl rfl (Nat.le_of_ble_eq_true rfl) dX1_standsAlone_32 rfl (fun r2 X1 h => ?_)
    refine j_iconst (pc' := 36) (v := 1) hκ (by decide) dX1_standsAlone_35 rfl ?_
    refine j_isub (pc' := 37) hκ dX1_standsAlone_36 rfl ?_
    refine j_aload_n (pc' := 38) hκ 0 rfl rfl dX1_standsAlone_37 rfl ?_
    refine jg_8_1 (pc' := 41) hκ (mi inlX1) (fl_in hκ (mc wm_6_21)) dX1_standsAlone_38 rfl ?_
    refine jg_6_1 (pc' := 44) hκ (mi inlX0) (fl_ne hκ 35 rfl) dX1_standsAlone_41 rfl ?_
    refine j_iload_n (pc' := 45) hκ 2 rfl rfl dX1_standsAlone_44 rfl ?_
    refine jx_iald (pc' := 46) hκ (ah_35 g) h.1 dX1_standsAlone_45 rfl ?_
    replace h := h.2
    refine jx_callSi (pc' := 49) hκ (c_int_bitCount (dg hκ) h) rfl rfl rfl (gS wm_39_23 wm_21_0 wm_21_1 wm_21_2) hqS_J6_bitCount_0f7a4 ⟨Nat.le_of_ble_eq_true rfl, Nat.le_of_ble_eq_true rfl⟩ rfl rfl (Nat.le_of_ble_eq_true rfl) dX1_standsAlone_46 rfl (fun r4 X3 h => ?_)
    refine j_isub (pc' := 50) hκ dX1_standsAlone_49 rfl ?_
    refine j_iconst (pc' := 51) (v := 2) hκ (by decide) dX1_standsAlone_50 rfl ?_
    refine j_icmp_ge (tgt := 58) (pc' := 54) hκ dX1_standsAlone_51 (by decide) rfl (fun c => ?_) (fun c => ?_)
    · replace h := h.1 c
      refine j_iconst (pc' := 59) (v := 0) hκ (by decide) dX1_standsAlone_58 rfl ?_
      exact hR _ _ _ _ dX1_standsAlone_59 (Or.inl rfl) h
    · replace h := h.2 c
      refine j_iconst (pc' := 55) (v := 1) hκ (by decide) dX1_standsAlone_54 rfl ?_
      refine j_goto (pc' := 59) hκ (by decide) dX1_standsAlone_55 ?_
      exact hR _ _ _ _ dX1_standsAlone_59 (Or.inr rfl) h
  replace h := h.2 c0
  by_cases c1 : p1 = 4
  · replace h := h.1 c1
    refine j_tabEq (v := 4) (tgt := 60) hκ dX1_standsAlone_1 c1 (by decide) (by decide) rfl (by decide) ?_
    refine j_aload_n (pc' := 61) hκ 0 rfl rfl dX1_standsAlone_60 rfl ?_
    refine jg_8_1 (pc' := 64) hκ (mi inlX1) (fl_in hκ (mc wm_6_21)) dX1_standsAlone_61 rfl ?_
    refine jg_6_0 (pc' := 67) hκ (mi inlX0) (fl_ne hκ 36 rfl) dX1_standsAlone_64 rfl ?_
    refine j_iload_n (pc' := 68) hκ 2 rfl rfl dX1_standsAlone_67 rfl ?_
    refine jx_iald (pc' := 69) hκ (ah_34 g) h.1 dX1_standsAlone_68 rfl ?_
    replace h := h.2
    refine jx_callSi (pc' := 72) hκ (c_int_bitCount (dg hκ) h) rfl rfl rfl (gS wm_39_23 wm_21_0 wm_21_1 wm_21_2) hqS_J6_bitCount_0f7a4 ⟨Nat.le_of_ble_eq_true rfl, Nat.le_of_ble_eq_true rfl⟩ rfl rfl (Nat.le_of_ble_eq_true rfl) dX1_standsAlone_69 rfl (fun r6 X5 h => ?_)
    refine j_iconst (pc' := 73) (v := 2) hκ (by decide) dX1_standsAlone_72 rfl ?_
    refine j_icmp_le (tgt := 80) (pc' := 76) hκ dX1_standsAlone_73 (by decide) rfl (fun c => ?_) (fun c => ?_)
    · replace h := h.1 c
      refine j_iconst (pc' := 81) (v := 0) hκ (by decide) dX1_standsAlone_80 rfl ?_
      exact hR _ _ _ _ dX1_standsAlone_81 (Or.inl rfl) h
    · replace h := h.2 c
      refine j_iconst (pc' := 77) (v := 1) hκ (by decide) dX1_standsAlone_76 rfl ?_
      refine j_goto (pc' := 81) hκ (by decide) dX1_standsAlone_77 ?_
      exact hR _ _ _ _ dX1_standsAlone_81 (Or.inr rfl) h
  replace h := h.2 c1
  by_cases c2 : p1 = 5
  · replace h := h.1 c2
    refine j_tabEq (v := 5) (tgt := 82) hκ dX1_standsAlone_1 c2 (by decide) (by decide) rfl (by decide) ?_
    refine j_aload_n (pc' := 83) hκ 0 rfl rfl dX1_standsAlone_82 rfl ?_
    refine j_aload_n (pc' := 84) hκ 0 rfl rfl dX1_standsAlone_83 rfl ?_
    refine jg_8_1 (pc' := 87) hκ (mi inlX1) (fl_in hκ (mc wm_6_21)) dX1_standsAlone_84 rfl ?_
    refine j_iload_n (pc' := 88) hκ 2 rfl rfl dX1_standsAlone_87 rfl ?_
    refine jx_callVi (pc' := 91) hκ (c_Case_ringOf (dg hκ) h) rfl rfl rfl (gV wm_40_0 wm_40_1 wm_40_2 wm_2_11 wm_40_3) hqV_X0_ringOf ⟨Nat.le_of_ble_eq_true rfl, Nat.le_of_ble_eq_true rfl⟩ (wg_6 g _ _) rfl rfl rfl (Nat.le_of_ble_eq_true rfl) dX1_standsAlone_88 rfl (fun r8 X7 h => ?_)
    refine jx_callVi (pc' := 94) hκ (c_Judge_isRing (dg hκ) h) rfl rfl rfl (gV wm_40_4 wm_40_5 wm_40_6 wm_2_19 wm_40_7) hqV_X1_isRing ⟨Nat.le_of_ble_eq_true rfl, Nat.le_of_ble_eq_true rfl⟩ (wg_8 g _ _) rfl rfl rfl (Nat.le_of_ble_eq_true rfl) dX1_standsAlone_91 rfl (fun r10 X9 h => ?_)
    exact hR _ _ _ _ dX1_standsAlone_94 h.1 h.2
  replace h := h.2 c2
  have u0 : ¬ (p1).toInt = 3 := fun e => c0 (Int32.toInt_inj.mp (e.trans (by decide)))
  have u1 : ¬ (p1).toInt = 4 := fun e => c1 (Int32.toInt_inj.mp (e.trans (by decide)))
  have u2 : ¬ (p1).toInt = 5 := fun e => c2 (Int32.toInt_inj.mp (e.trans (by decide)))
  refine j_tabOut (tgt := 95) hκ dX1_standsAlone_1 (by omega) (by decide) ?_
  refine j_iconst (pc' := 96) (v := 0) hκ (by decide) dX1_standsAlone_95 rfl ?_
  exact hR _ _ _ _ dX1_standsAlone_96 (Or.inl rfl) h
theorem c_Judge_standsAlone {g : Gx} (hg : Dg g) {X M : ST} {p1 : Int32} {p2 : Int32} {post : Int32 → ST → Prop} (h : wp_Judge_standsAlone X p1 p2 post) (l : Launch) : Met l yX1_standsAlone wq_X1_standsAlone rm_Judge_standsAlone (va_Pc [.ref (g.2.1 8), .int p1, .int p2] (PU g X M)) (va_Qi post (fun Y t => va_P g.1 vwCl (ww g Y M) t.heap) (wA g)) 0 0 (wA g) :=
  met_xz hg (by decide) rfl [.ref (g.2.1 8), .int p1, .int p2] rfl (Nat.le_of_ble_eq_true rfl) (fun κ hκ hR => lb_Judge_standsAlone hκ hR h) l
theorem wm_39_18 : Cond.methodLink RX1 84 yX1_standsAlone ∈ wAll := inr_39 (List.mem_of_getElem? (i := 18) rfl)
theorem wm_39_19 : Cond.instanceMethod yX1_standsAlone ∈ wAll := inr_39 (List.mem_of_getElem? (i := 19) rfl)
theorem wm_39_20 : Cond.selects RX1 yX1_standsAlone yX1_standsAlone ∈ wAll := inr_39 (List.mem_of_getElem? (i := 20) rfl)
theorem wm_39_21 : Cond.code yX1_standsAlone cX1_standsAlone 3 (some .boolean) ∈ wAll := inr_39 (List.mem_of_getElem? (i := 21) rfl)
theorem hqV_X1_standsAlone : yX1_standsAlone.cls = RX1 ∧ yX1_standsAlone.cls ≠ "java/lang/invoke/MethodHandle" ∧ yX1_standsAlone.cls ≠ "java/lang/invoke/VarHandle" ∧ (parseMethodDescriptor yX1_standsAlone.desc).map (fun d => d.parameters.length) = some 2 := by decide +kernel
abbrev rm_Judge_writeAlone_draft : Room := { frames := 3, cells := 0, slots := 0, locals := 68 }
def wp_Judge_writeAlone_draft_2_s (K33 : ST → Int32 → Int32 → Prop) (K48 : ST → Prop) (post : Int32 → ST → Prop) (rec : ST → Int32 → Int32 → Prop) (X : ST) (l2 : Int32) (l3 : Int32) : Prop :=
  ((x_Lamps_count X) ≤ l3 → (K48 X)) ∧ (¬ (x_Lamps_count X) ≤ l3 → (wp_Lamps_isLive X l3 (fun r2 X1 => (r2 = 0 → (rec X1 l2 (l3 + 1))) ∧ (¬ r2 = 0 → (wp_Judge_standsAlone X1 l2 l3 (fun r4 X3 => (r4 = 0 → (rec X3 l2 (l3 + 1))) ∧ (¬ r4 = 0 → (K33 X3 l2 l3))))))))
def wp_Judge_writeAlone_draft_2 (K33 : ST → Int32 → Int32 → Prop) (K48 : ST → Prop) (post : Int32 → ST → Prop) : Nat → ST → Int32 → Int32 → Prop
  | 0 => fun _ _ _ => False
  | n + 1 => wp_Judge_writeAlone_draft_2_s K33 K48 post (wp_Judge_writeAlone_draft_2 K33 K48 post n)
set_option maxHeartbeats 4000000 in
set_option maxRecDepth 100000 in
theorem lb_Judge_writeAlone_draft_2 {κ : Cx} {g : Gx} {M : ST} (hκ : CF κ g RX1 cX1_writeAlone wq_X1_writeAlone 4 rm_Judge_writeAlone_draft) {post : Int32 → ST → Prop} (hR : RtxZ κ g 4 cX1_writeAlone M post) {K33 : ST → Int32 → Int32 → Prop} {K48 : ST → Prop} (hK33 : ∀ (X : ST) (l2 : Int32) (l3 : Int32), K33 X l2 l3 → Jw κ g 4 X M [(1, .ref (g.2.1 10)), (2, .int l2), (3, .int l3)] 33 []) (hK48 : ∀ (X : ST), K48 X → Jw κ g 4 X M [] 48 []) : ∀ (n : Nat) (X : ST) (l2 : Int32) (l3 : Int32), wp_Judge_writeAlone_draft_2 K33 K48 post n X l2 l3 → Jw κ g 4 X M [(0, .ref (g.2.1 8)), (1, .ref (g.2.1 10)), (2, .int l2), (3, .int l3)] 2 [] := by
  intro n
  induction n with
  | zero =>
    intro X l2 l3  h
    exact h.elim
  | succ n ih =>
    intro X l2 l3  h
    have h : wp_Judge_writeAlone_draft_2_s K33 K48 post (wp_Judge_writeAlone_draft_2 K33 K48 post n) X l2 l3 := h
    unfold wp_Judge_writeAlone_draft_2_s at h
    refine j_iload_n (pc' := 3) hκ 3 rfl rfl dX1_writeAlone_2 rfl ?_
    refine j_aload_n (pc' := 4) hκ 0 rfl rfl dX1_writeAlone_3 rfl ?_
    refine jg_8_0 (pc' := 7) hκ (mi inlX1) (fl_in hκ (mc wm_6_20)) dX1_writeAlone_4 rfl ?_
    refine jg_3_9 (pc' := 10) hκ (mi inlX2) (fl_ne hκ 38 rfl) dX1_writeAlone_7 rfl ?_
    refine j_icmp_ge (tgt := 48) (pc' := 13) hκ dX1_writeAlone_10 (by decide) rfl (fun c => ?_) (fun c => ?_)
    · replace h := h.1 c
      refine j_sub [] rfl ?_
      exact hK48 _  h
    · replace h := h.2 c
      refine j_aload_n (pc' := 14) hκ 0 rfl rfl dX1_writeAlone_13 rfl ?_
      refine jg_8_0 (pc' := 17) hκ (mi inlX1) (fl_in hκ (mc wm_6_20)) dX1_writeAlone_14 rfl ?_
      refine j_iload_n (pc' := 18) hκ 3 rfl rfl dX1_writeAlone_17 rfl ?_
      refine jx_callVi (pc' := 21) hκ (c_Lamps_isLive (dg hκ) h) rfl rfl rfl (gV wm_39_17 wm_17_23 wm_18_0 wm_1_23 wm_18_1) hqV_X2_isLive ⟨Nat.le_of_ble_eq_true rfl, Nat.le_of_ble_eq_true rfl⟩ (wg_3 g _ _) rfl rfl rfl (Nat.le_of_ble_eq_true rfl) dX1_writeAlone_18 rfl (fun r2 X1 h => ?_)
      refine j_if_eq (tgt := 42) (pc' := 24) hκ dX1_writeAlone_21 (by decide) rfl (fun c => ?_) (fun c => ?_)
      · replace h := h.1 c
        refine j_iinc (pc' := 45) (v := l3 + 1) (lv' := [(3, .int (l3 + 1)), (0, .ref (g.2.1 8)), (1, .ref (g.2.1 10)), (2, .int l2)]) hκ 3 rfl rfl (Nat.le_of_ble_eq_true rfl) rfl dX1_writeAlone_42 rfl ?_
        refine j_goto (pc' := 2) hκ (by decide) dX1_writeAlone_45 ?_
        refine j_sub [1, 2, 3, 0] rfl ?_
        exact ih _ _ _  h
      · replace h := h.2 c
        refine j_aload_n (pc' := 25) hκ 0 rfl rfl dX1_writeAlone_24 rfl ?_
        refine j_iload_n (pc' := 26) hκ 2 rfl rfl dX1_writeAlone_25 rfl ?_
        refine j_iload_n (pc' := 27) hκ 3 rfl rfl dX1_writeAlone_26 rfl ?_
        refine jx_callVi (pc' := 30) hκ (c_Judge_standsAlone (dg hκ) h) rfl rfl rfl (gV wm_39_18 wm_39_19 wm_39_20 wm_2_19 wm_39_21) hqV_X1_standsAlone ⟨Nat.le_of_ble_eq_true rfl, Nat.le_of_ble_eq_true rfl⟩ (wg_8 g _ _) rfl rfl rfl (Nat.le_of_ble_eq_true rfl) dX1_writeAlone_27 rfl (fun r4 X3 h => ?_)
        refine j_if_eq (tgt := 42) (pc' := 33) hκ dX1_writeAlone_30 (by decide) rfl (fun c => ?_) (fun c => ?_)
        · replace h := h.1 c
          refine j_iinc (pc' := 45) (v := l3 + 1) (lv' := [(3, .int (l3 + 1)), (0, .ref (g.2.1 8)), (1, .ref (g.2.1 10)), (2, .int l2)]) hκ 3 rfl rfl (Nat.le_of_ble_eq_true rfl) rfl dX1_writeAlone_42 rfl ?_
          refine j_goto (pc' := 2) hκ (by decide) dX1_writeAlone_45 ?_
          refine j_sub [1, 2, 3, 0] rfl ?_
          exact ih _ _ _  h
        · replace h := h.2 c
          refine j_sub [1, 2, 3] rfl ?_
          exact hK33 _ _ _  h
def wp_Judge_writeAlone_draft (X : ST) (p2 : Int32) (post : Int32 → ST → Prop) : Prop :=
  ∃ n, wp_Judge_writeAlone_draft_2 (fun X5 v6 v7 => wp_draft_append X5 v6 v7 0 (fun X8 => post 1 X8)) (fun X10 => post 0 X10) post n X p2 0
set_option maxHeartbeats 4000000 in
set_option maxRecDepth 100000 in
theorem lb_Judge_writeAlone_draft {κ : Cx} {g : Gx} {M : ST} (hκ : CF κ g RX1 cX1_writeAlone wq_X1_writeAlone 4 rm_Judge_writeAlone_draft) {post : Int32 → ST → Prop} (hR : RtxZ κ g 4 cX1_writeAlone M post) {X : ST} {p2 : Int32} (h : wp_Judge_writeAlone_draft X p2 post) : Jw κ g 4 X M [(0, .ref (g.2.1 8)), (1, .ref (g.2.1 10)), (2, .int p2)] 0 [] := by
  unfold wp_Judge_writeAlone_draft at h
  refine j_iconst (pc' := 1) (v := 0) hκ (by decide) dX1_writeAlone_0 rfl ?_
  refine j_istore_n (pc' := 2) (lv' := [(3, .int 0), (0, .ref (g.2.1 8)), (1, .ref (g.2.1 10)), (2, .int p2)]) hκ (Nat.le_of_ble_eq_true rfl) rfl rfl dX1_writeAlone_1 rfl ?_
  obtain ⟨n, h⟩ := h
  refine j_sub [1, 2, 3, 0] rfl ?_
  refine lb_Judge_writeAlone_draft_2 hκ hR ?_ ?_ n _ _ _  h
  · intro X5 v6 v7  h
    refine j_aload_n (pc' := 34) hκ 0 rfl rfl dX1_writeAlone_33 rfl ?_
    refine j_iload_n (pc' := 35) hκ 1 rfl rfl dX1_writeAlone_34 rfl ?_
    refine j_iload_n (pc' := 36) hκ 2 rfl rfl dX1_writeAlone_35 rfl ?_
    refine j_iconst (pc' := 37) (v := 0) hκ (by decide) dX1_writeAlone_36 rfl ?_
    refine jx_callVv (pc' := 40) hκ (c_draft_append (dg hκ) h) rfl rfl rfl (gV wm_39_5 wm_39_6 wm_39_7 wm_2_23 wm_39_8) hqV_X3_append ⟨Nat.le_of_ble_eq_true rfl, Nat.le_of_ble_eq_true rfl⟩ (wg_10 g _ _) rfl rfl rfl (Nat.le_of_ble_eq_true rfl) dX1_writeAlone_37 rfl (fun X8 h => ?_)
    refine j_iconst (pc' := 41) (v := 1) hκ (by decide) dX1_writeAlone_40 rfl ?_
    exact hR _ _ _ _ dX1_writeAlone_41 (Or.inr rfl) h
  · intro X10  h
    refine j_iconst (pc' := 49) (v := 0) hκ (by decide) dX1_writeAlone_48 rfl ?_
    exact hR _ _ _ _ dX1_writeAlone_49 (Or.inl rfl) h
theorem c_Judge_writeAlone_draft {g : Gx} (hg : Dg g) {X M : ST} {p2 : Int32} {post : Int32 → ST → Prop} (h : wp_Judge_writeAlone_draft X p2 post) (l : Launch) : Met l yX1_writeAlone wq_X1_writeAlone rm_Judge_writeAlone_draft (va_Pc [.ref (g.2.1 8), .ref (g.2.1 10), .int p2] (PU g X M)) (va_Qi post (fun Y t => va_P g.1 vwCl (ww g Y M) t.heap) (wA g)) 0 0 (wA g) :=
  met_xz hg (by decide) rfl [.ref (g.2.1 8), .ref (g.2.1 10), .int p2] rfl (Nat.le_of_ble_eq_true rfl) (fun κ hκ hR => lb_Judge_writeAlone_draft hκ hR h) l
theorem wm_39_13 : Cond.methodLink RX1 127 yX1_writeAlone ∈ wAll := inr_39 (List.mem_of_getElem? (i := 13) rfl)
theorem wm_39_14 : Cond.instanceMethod yX1_writeAlone ∈ wAll := inr_39 (List.mem_of_getElem? (i := 14) rfl)
theorem wm_39_15 : Cond.selects RX1 yX1_writeAlone yX1_writeAlone ∈ wAll := inr_39 (List.mem_of_getElem? (i := 15) rfl)
theorem wm_39_16 : Cond.code yX1_writeAlone cX1_writeAlone 4 (some .boolean) ∈ wAll := inr_39 (List.mem_of_getElem? (i := 16) rfl)
theorem hqV_X1_writeAlone : yX1_writeAlone.cls = RX1 ∧ yX1_writeAlone.cls ≠ "java/lang/invoke/MethodHandle" ∧ yX1_writeAlone.cls ≠ "java/lang/invoke/VarHandle" ∧ (parseMethodDescriptor yX1_writeAlone.desc).map (fun d => d.parameters.length) = some 2 := by decide +kernel
theorem wm_6_22 : Cond.fieldLink RX1 19 "LampRound$Judge" "tree" "LLampRound$Tree;" ∈ wAll := inr_6 (List.mem_of_getElem? (i := 22) rfl)
theorem wm_40_12 : Cond.methodLink RX1 87 yX8_grow ∈ wAll := inr_40 (List.mem_of_getElem? (i := 12) rfl)
theorem wm_40_13 : Cond.methodLink RX1 92 yX8_sumOfCase ∈ wAll := inr_40 (List.mem_of_getElem? (i := 13) rfl)
abbrev rm_Judge_pricesStand : Room := { frames := 4, cells := 0, slots := 0, locals := 92 }
def wp_Judge_pricesStand (X : ST) (p1 : Int32) (post : Int32 → ST → Prop) : Prop :=
  wp_Tree_grow X (fun X1 => wp_Tree_sumOfCase X1 (fun r4 X3 => (r4 < (p1.toInt64) → (post 0 X3)) ∧ (¬ r4 < (p1.toInt64) → (post 1 X3))))
set_option maxHeartbeats 4000000 in
set_option maxRecDepth 100000 in
theorem lb_Judge_pricesStand {κ : Cx} {g : Gx} {M : ST} (hκ : CF κ g RX1 cX1_pricesStand wq_X1_pricesStand 2 rm_Judge_pricesStand) {post : Int32 → ST → Prop} (hR : RtxZ κ g 2 cX1_pricesStand M post) {X : ST} {p1 : Int32} (h : wp_Judge_pricesStand X p1 post) : Jw κ g 2 X M [(0, .ref (g.2.1 8)), (1, .int p1)] 0 [] := by
  unfold wp_Judge_pricesStand at h
  refine j_aload_n (pc' := 1) hκ 0 rfl rfl dX1_pricesStand_0 rfl ?_
  refine jg_8_2 (pc' := 4) hκ (mi inlX1) (fl_in hκ (mc wm_6_22)) dX1_pricesStand_1 rfl ?_
  refine jx_callVv (pc' := 7) hκ (c_Tree_grow (dg hκ) h) rfl rfl rfl (gV wm_40_12 wm_33_17 wm_33_18 wm_2_15 wm_33_19) hqV_X8_grow ⟨Nat.le_of_ble_eq_true rfl, Nat.le_of_ble_eq_true rfl⟩ (wg_7 g _ _) rfl rfl rfl (Nat.le_of_ble_eq_true rfl) dX1_pricesStand_4 rfl (fun X1 h => ?_)
  refine j_aload_n (pc' := 8) hκ 0 rfl rfl dX1_pricesStand_7 rfl ?_
  refine jg_8_2 (pc' := 11) hκ (mi inlX1) (fl_in hκ (mc wm_6_22)) dX1_pricesStand_8 rfl ?_
  refine jx_callVl (pc' := 14) hκ (c_Tree_sumOfCase (dg hκ) h) rfl rfl rfl (gV wm_40_13 wm_35_7 wm_35_8 wm_2_15 wm_35_9) hqV_X8_sumOfCase ⟨Nat.le_of_ble_eq_true rfl, Nat.le_of_ble_eq_true rfl⟩ (wg_7 g _ _) rfl rfl rfl (Nat.le_of_ble_eq_true rfl) dX1_pricesStand_11 rfl (fun r4 X3 h => ?_)
  refine j_iload_n (pc' := 15) hκ 1 rfl rfl dX1_pricesStand_14 rfl ?_
  refine j_i2l (pc' := 16) hκ dX1_pricesStand_15 rfl ?_
  refine j_lc_lt (tgt := 24) (pc1 := 17) (pc' := 20) hκ dX1_pricesStand_16 rfl dX1_pricesStand_17 (by decide) rfl (fun c => ?_) (fun c => ?_)
  · replace h := h.1 c
    refine j_iconst (pc' := 25) (v := 0) hκ (by decide) dX1_pricesStand_24 rfl ?_
    exact hR _ _ _ _ dX1_pricesStand_25 (Or.inl rfl) h
  · replace h := h.2 c
    refine j_iconst (pc' := 21) (v := 1) hκ (by decide) dX1_pricesStand_20 rfl ?_
    refine j_goto (pc' := 25) hκ (by decide) dX1_pricesStand_21 ?_
    exact hR _ _ _ _ dX1_pricesStand_25 (Or.inr rfl) h
theorem c_Judge_pricesStand {g : Gx} (hg : Dg g) {X M : ST} {p1 : Int32} {post : Int32 → ST → Prop} (h : wp_Judge_pricesStand X p1 post) (l : Launch) : Met l yX1_pricesStand wq_X1_pricesStand rm_Judge_pricesStand (va_Pc [.ref (g.2.1 8), .int p1] (PU g X M)) (va_Qi post (fun Y t => va_P g.1 vwCl (ww g Y M) t.heap) (wA g)) 0 0 (wA g) :=
  met_xz hg (by decide) rfl [.ref (g.2.1 8), .int p1] rfl (Nat.le_of_ble_eq_true rfl) (fun κ hκ hR => lb_Judge_pricesStand hκ hR h) l
theorem wm_40_8 : Cond.methodLink RX1 74 yX1_pricesStand ∈ wAll := inr_40 (List.mem_of_getElem? (i := 8) rfl)
theorem wm_40_9 : Cond.instanceMethod yX1_pricesStand ∈ wAll := inr_40 (List.mem_of_getElem? (i := 9) rfl)
theorem wm_40_10 : Cond.selects RX1 yX1_pricesStand yX1_pricesStand ∈ wAll := inr_40 (List.mem_of_getElem? (i := 10) rfl)
theorem wm_40_11 : Cond.code yX1_pricesStand cX1_pricesStand 2 (some .boolean) ∈ wAll := inr_40 (List.mem_of_getElem? (i := 11) rfl)
theorem hqV_X1_pricesStand : yX1_pricesStand.cls = RX1 ∧ yX1_pricesStand.cls ≠ "java/lang/invoke/MethodHandle" ∧ yX1_pricesStand.cls ≠ "java/lang/invoke/VarHandle" ∧ (parseMethodDescriptor yX1_pricesStand.desc).map (fun d => d.parameters.length) = some 1 := by decide +kernel
abbrev rm_Case_isFree : Room := { frames := 1, cells := 0, slots := 0, locals := 21 }
def wp_Case_isFree (X : ST) (p1 : Int32) (p2 : Int32) (post : Int32 → ST → Prop) : Prop :=
  vp_in p1 12 ∧ (vp_in p1 12 ∧ (wp_LR_isIn X ((x_Case_joined X p1.toNatClampNeg) ||| (x_Case_parted X p1.toNatClampNeg)) p2 (fun r2 X1 => (¬ r2 = 0 → (post 0 X1)) ∧ (r2 = 0 → (post 1 X1)))))
set_option maxHeartbeats 4000000 in
set_option maxRecDepth 100000 in
theorem lb_Case_isFree {κ : Cx} {g : Gx} {M : ST} (hκ : CF κ g RX0 cX0_isFree wq_X0_isFree 3 rm_Case_isFree) {post : Int32 → ST → Prop} (hR : RtxZ κ g 3 cX0_isFree M post) {X : ST} {p1 : Int32} {p2 : Int32} (h : wp_Case_isFree X p1 p2 post) : Jw κ g 3 X M [(0, .ref (g.2.1 6)), (1, .int p1), (2, .int p2)] 0 [] := by
  unfold wp_Case_isFree at h
  refine j_aload_n (pc' := 1) hκ 0 rfl rfl dX0_isFree_0 rfl ?_
  refine jg_6_0 (pc' := 4) hκ (mi inlX0) (fl_in hκ (mc wm_5_21)) dX0_isFree_1 rfl ?_
  refine j_iload_n (pc' := 5) hκ 1 rfl rfl dX0_isFree_4 rfl ?_
  refine jx_iald (pc' := 6) hκ (ah_34 g) h.1 dX0_isFree_5 rfl ?_
  replace h := h.2
  refine j_aload_n (pc' := 7) hκ 0 rfl rfl dX0_isFree_6 rfl ?_
  refine jg_6_1 (pc' := 10) hκ (mi inlX0) (fl_in hκ (mc wm_5_22)) dX0_isFree_7 rfl ?_
  refine j_iload_n (pc' := 11) hκ 1 rfl rfl dX0_isFree_10 rfl ?_
  refine jx_iald (pc' := 12) hκ (ah_35 g) h.1 dX0_isFree_11 rfl ?_
  replace h := h.2
  refine j_ior (pc' := 13) hκ dX0_isFree_12 rfl ?_
  refine j_iload_n (pc' := 14) hκ 2 rfl rfl dX0_isFree_13 rfl ?_
  refine jx_callNi (pc' := 17) hκ (c_LR_isIn (dg hκ) h) rfl rfl rfl (gN wm_18_4) 3 rfl (mc wm_1_2) (mc wm_18_3) hqS_X9_isIn ⟨Nat.le_of_ble_eq_true rfl, Nat.le_of_ble_eq_true rfl⟩ rfl rfl (Nat.le_of_ble_eq_true rfl) dX0_isFree_14 rfl (fun r2 X1 h => ?_)
  refine j_if_ne (tgt := 24) (pc' := 20) hκ dX0_isFree_17 (by decide) rfl (fun c => ?_) (fun c => ?_)
  · replace h := h.1 c
    refine j_iconst (pc' := 25) (v := 0) hκ (by decide) dX0_isFree_24 rfl ?_
    exact hR _ _ _ _ dX0_isFree_25 (Or.inl rfl) h
  · replace h := h.2 c
    refine j_iconst (pc' := 21) (v := 1) hκ (by decide) dX0_isFree_20 rfl ?_
    refine j_goto (pc' := 25) hκ (by decide) dX0_isFree_21 ?_
    exact hR _ _ _ _ dX0_isFree_25 (Or.inr rfl) h
theorem c_Case_isFree {g : Gx} (hg : Dg g) {X M : ST} {p1 : Int32} {p2 : Int32} {post : Int32 → ST → Prop} (h : wp_Case_isFree X p1 p2 post) (l : Launch) : Met l yX0_isFree wq_X0_isFree rm_Case_isFree (va_Pc [.ref (g.2.1 6), .int p1, .int p2] (PU g X M)) (va_Qi post (fun Y t => va_P g.1 vwCl (ww g Y M) t.heap) (wA g)) 0 0 (wA g) :=
  met_xz hg (by decide) rfl [.ref (g.2.1 6), .int p1, .int p2] rfl (Nat.le_of_ble_eq_true rfl) (fun κ hκ hR => lb_Case_isFree hκ hR h) l
