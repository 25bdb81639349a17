theorem wm_40_18 : Cond.methodLink RX8 88 yX0_isFree ∈ wAll := inr_40 (List.mem_of_getElem? (i := 18) rfl)
theorem wm_40_19 : Cond.instanceMethod yX0_isFree ∈ wAll := inr_40 (List.mem_of_getElem? (i := 19) rfl)
theorem wm_40_20 : Cond.selects RX0 yX0_isFree yX0_isFree ∈ wAll := inr_40 (List.mem_of_getElem? (i := 20) rfl)
theorem wm_40_21 : Cond.code yX0_isFree cX0_isFree 3 (some .boolean) ∈ wAll := inr_40 (List.mem_of_getElem? (i := 21) rfl)
theorem hqV_X0_isFree : yX0_isFree.cls = RX0 ∧ yX0_isFree.cls ≠ "java/lang/invoke/MethodHandle" ∧ yX0_isFree.cls ≠ "java/lang/invoke/VarHandle" ∧ (parseMethodDescriptor yX0_isFree.desc).map (fun d => d.parameters.length) = some 2 := by decide +kernel
abbrev rm_Tree_firstFreePair : Room := { frames := 2, cells := 0, slots := 0, locals := 43 }
def wp_Tree_firstFreePair_2_s (K34 : ST → Int32 → Prop) (K42 : ST → Prop) (post : Int32 → ST → Prop) (rec : ST → Int32 → Prop) (X : ST) (l1 : Int32) : Prop :=
  ((x_Tree_pairs X) ≤ l1 → (K42 X)) ∧ (¬ (x_Tree_pairs X) ≤ l1 → (wp_Tree_pairAt X l1 (fun r2 X1 => wp_LR_lesserOf X1 r2 (fun r4 X3 => wp_LR_greaterOf X3 r2 (fun r6 X5 => wp_Case_isFree X5 r4 r6 (fun r8 X7 => (r8 = 0 → (rec X7 (l1 + 1))) ∧ (¬ r8 = 0 → (K34 X7 r2))))))))
def wp_Tree_firstFreePair_2 (K34 : ST → Int32 → Prop) (K42 : ST → Prop) (post : Int32 → ST → Prop) : Nat → ST → Int32 → Prop
  | 0 => fun _ _ => False
  | n + 1 => wp_Tree_firstFreePair_2_s K34 K42 post (wp_Tree_firstFreePair_2 K34 K42 post n)
set_option maxHeartbeats 4000000 in
set_option maxRecDepth 100000 in
theorem lb_Tree_firstFreePair_2 {κ : Cx} {g : Gx} {M : ST} (hκ : CF κ g RX8 cX8_firstFreePair wq_X8_firstFreePair 3 rm_Tree_firstFreePair) {post : Int32 → ST → Prop} (hR : RtxI κ g 3 cX8_firstFreePair M post) {K34 : ST → Int32 → Prop} {K42 : ST → Prop} (hK34 : ∀ (X : ST) (l2 : Int32), K34 X l2 → Jw κ g 3 X M [(2, .int l2)] 34 []) (hK42 : ∀ (X : ST), K42 X → Jw κ g 3 X M [] 42 []) : ∀ (n : Nat) (X : ST) (l1 : Int32), wp_Tree_firstFreePair_2 K34 K42 post n X l1 → Jw κ g 3 X M [(0, .ref (g.2.1 7)), (1, .int l1)] 2 [] := by
  intro n
  induction n with
  | zero =>
    intro X l1  h
    exact h.elim
  | succ n ih =>
    intro X l1  h
    have h : wp_Tree_firstFreePair_2_s K34 K42 post (wp_Tree_firstFreePair_2 K34 K42 post n) X l1 := h
    unfold wp_Tree_firstFreePair_2_s at h
    refine j_iload_n (pc' := 3) hκ 1 rfl rfl dX8_firstFreePair_2 rfl ?_
    refine j_aload_n (pc' := 4) hκ 0 rfl rfl dX8_firstFreePair_3 rfl ?_
    refine jg_7_5 (pc' := 7) hκ (mi inlX8) (fl_in hκ (mc wm_6_10)) dX8_firstFreePair_4 rfl ?_
    refine j_icmp_ge (tgt := 42) (pc' := 10) hκ dX8_firstFreePair_7 (by decide) rfl (fun c => ?_) (fun c => ?_)
    · replace h := h.1 c
      refine j_sub [] rfl ?_
      exact hK42 _  h
    · replace h := h.2 c
      refine j_aload_n (pc' := 11) hκ 0 rfl rfl dX8_firstFreePair_10 rfl ?_
      refine j_iload_n (pc' := 12) hκ 1 rfl rfl dX8_firstFreePair_11 rfl ?_
      refine jx_callVi (pc' := 15) hκ (c_Tree_pairAt (dg hκ) h) rfl rfl rfl (gV wm_34_5 wm_34_6 wm_34_7 wm_2_15 wm_34_8) hqV_X8_pairAt ⟨Nat.le_of_ble_eq_true rfl, Nat.le_of_ble_eq_true rfl⟩ (wg_7 g _ _) rfl rfl rfl (Nat.le_of_ble_eq_true rfl) dX8_firstFreePair_12 rfl (fun r2 X1 h => ?_)
      refine j_istore_n (pc' := 16) (lv' := [(2, .int r2), (0, .ref (g.2.1 7)), (1, .int l1)]) hκ (Nat.le_of_ble_eq_true rfl) rfl rfl dX8_firstFreePair_15 rfl ?_
      refine j_aload_n (pc' := 17) hκ 1 rfl rfl dX8_firstFreePair_16 rfl ?_
      refine jg_7_1 (pc' := 20) hκ (mi inlX8) (fl_in hκ (mc wm_6_15)) dX8_firstFreePair_17 rfl ?_
      refine j_iload_n (pc' := 21) hκ 0 rfl rfl dX8_firstFreePair_20 rfl ?_
      refine jx_callNi (pc' := 24) hκ (c_LR_lesserOf (dg hκ) h) rfl rfl rfl (gN wm_34_11) 13 rfl (mc wm_1_2) (mc wm_34_10) hqS_X9_lesserOf ⟨Nat.le_of_ble_eq_true rfl, Nat.le_of_ble_eq_true rfl⟩ rfl rfl (Nat.le_of_ble_eq_true rfl) dX8_firstFreePair_21 rfl (fun r4 X3 h => ?_)
      refine j_iload_n (pc' := 25) hκ 0 rfl rfl dX8_firstFreePair_24 rfl ?_
      refine jx_callNi (pc' := 28) hκ (c_LR_greaterOf (dg hκ) h) rfl rfl rfl (gN wm_34_13) 14 rfl (mc wm_1_2) (mc wm_34_12) hqS_X9_greaterOf ⟨Nat.le_of_ble_eq_true rfl, Nat.le_of_ble_eq_true rfl⟩ rfl rfl (Nat.le_of_ble_eq_true rfl) dX8_firstFreePair_25 rfl (fun r6 X5 h => ?_)
      refine jx_callVi (pc' := 31) hκ (c_Case_isFree (dg hκ) h) rfl rfl rfl (gV wm_40_18 wm_40_19 wm_40_20 wm_2_11 wm_40_21) hqV_X0_isFree ⟨Nat.le_of_ble_eq_true rfl, Nat.le_of_ble_eq_true rfl⟩ (wg_6 g _ _) rfl rfl rfl (Nat.le_of_ble_eq_true rfl) dX8_firstFreePair_28 rfl (fun r8 X7 h => ?_)
      refine j_if_eq (tgt := 36) (pc' := 34) hκ dX8_firstFreePair_31 (by decide) rfl (fun c => ?_) (fun c => ?_)
      · replace h := h.1 c
        refine j_iinc (pc' := 39) (v := l1 + 1) (lv' := [(1, .int (l1 + 1)), (2, .int r2), (0, .ref (g.2.1 7))]) hκ 2 rfl rfl (Nat.le_of_ble_eq_true rfl) rfl dX8_firstFreePair_36 rfl ?_
        refine j_goto (pc' := 2) hκ (by decide) dX8_firstFreePair_39 ?_
        refine j_sub [2, 0] rfl ?_
        exact ih _ _  h
      · replace h := h.2 c
        refine j_sub [0] rfl ?_
        exact hK34 _ _  h
def wp_Tree_firstFreePair (X : ST) (post : Int32 → ST → Prop) : Prop :=
  ∃ n, wp_Tree_firstFreePair_2 (fun X9 v10 => post v10 X9) (fun X11 => post (-1) X11) post n X 0
set_option maxHeartbeats 4000000 in
set_option maxRecDepth 100000 in
theorem lb_Tree_firstFreePair {κ : Cx} {g : Gx} {M : ST} (hκ : CF κ g RX8 cX8_firstFreePair wq_X8_firstFreePair 3 rm_Tree_firstFreePair) {post : Int32 → ST → Prop} (hR : RtxI κ g 3 cX8_firstFreePair M post) {X : ST} (h : wp_Tree_firstFreePair X post) : Jw κ g 3 X M [(0, .ref (g.2.1 7))] 0 [] := by
  unfold wp_Tree_firstFreePair at h
  refine j_iconst (pc' := 1) (v := 0) hκ (by decide) dX8_firstFreePair_0 rfl ?_
  refine j_istore_n (pc' := 2) (lv' := [(1, .int 0), (0, .ref (g.2.1 7))]) hκ (Nat.le_of_ble_eq_true rfl) rfl rfl dX8_firstFreePair_1 rfl ?_
  obtain ⟨n, h⟩ := h
  refine j_sub [1, 0] rfl ?_
  refine lb_Tree_firstFreePair_2 hκ hR ?_ ?_ n _ _  h
  · intro X9 v10  h
    refine j_iload_n (pc' := 35) hκ 0 rfl rfl dX8_firstFreePair_34 rfl ?_
    exact hR _ _ _ _ dX8_firstFreePair_35 h
  · intro X11  h
    refine j_iconst (pc' := 43) (v := (-1)) hκ (by decide) dX8_firstFreePair_42 rfl ?_
    exact hR _ _ _ _ dX8_firstFreePair_43 h
theorem c_Tree_firstFreePair {g : Gx} (hg : Dg g) {X M : ST} {post : Int32 → ST → Prop} (h : wp_Tree_firstFreePair X post) (l : Launch) : Met l yX8_firstFreePair wq_X8_firstFreePair rm_Tree_firstFreePair (va_Pc [.ref (g.2.1 7)] (PU g X M)) (va_Qi post (fun Y t => va_P g.1 vwCl (ww g Y M) t.heap) (wA g)) 0 0 (wA g) :=
  met_xi hg (by decide) rfl [.ref (g.2.1 7)] rfl (Nat.le_of_ble_eq_true rfl) (fun κ hκ hR => lb_Tree_firstFreePair hκ hR h) l
theorem wm_40_14 : Cond.methodLink RX1 134 yX8_firstFreePair ∈ wAll := inr_40 (List.mem_of_getElem? (i := 14) rfl)
theorem wm_40_15 : Cond.instanceMethod yX8_firstFreePair ∈ wAll := inr_40 (List.mem_of_getElem? (i := 15) rfl)
theorem wm_40_16 : Cond.selects RX8 yX8_firstFreePair yX8_firstFreePair ∈ wAll := inr_40 (List.mem_of_getElem? (i := 16) rfl)
theorem wm_40_17 : Cond.code yX8_firstFreePair cX8_firstFreePair 3 (some .int) ∈ wAll := inr_40 (List.mem_of_getElem? (i := 17) rfl)
theorem hqV_X8_firstFreePair : yX8_firstFreePair.cls = RX8 ∧ yX8_firstFreePair.cls ≠ "java/lang/invoke/MethodHandle" ∧ yX8_firstFreePair.cls ≠ "java/lang/invoke/VarHandle" ∧ (parseMethodDescriptor yX8_firstFreePair.desc).map (fun d => d.parameters.length) = some 0 := by decide +kernel
abbrev rm_Judge_writeNext_draft : Room := { frames := 5, cells := 0, slots := 0, locals := 113 }
def wp_Judge_writeNext_draft (X : ST) (p2 : Int32) (post : Int32 → ST → Prop) : Prop :=
  wp_Judge_writeTwins_draft X (fun r2 X1 => (¬ r2 = 0 → (post 1 X1)) ∧ (r2 = 0 → (wp_Judge_writeAlone_draft X1 3 (fun r4 X3 => (¬ r4 = 0 → (post 1 X3)) ∧ (r4 = 0 → (wp_Judge_writeAlone_draft X3 4 (fun r6 X5 => (¬ r6 = 0 → (post 1 X5)) ∧ (r6 = 0 → (wp_Judge_writeAlone_draft X5 5 (fun r8 X7 => (r8 = 0 → (wp_Judge_pricesStand X7 p2 (fun r10 X9 => (r10 = 0 → (wp_Tree_firstFreePair X9 (fun r12 X11 => (¬ r12 = (-1) → (wp_LR_lesserOf X11 r12 (fun r14 X13 => wp_LR_greaterOf X13 r12 (fun r16 X15 => wp_draft_append X15 1 r14 r16 (fun X17 => post 1 X17))))) ∧ (r12 = (-1) → (post 0 X11))))) ∧ (¬ r10 = 0 → (wp_draft_append X9 2 0 0 (fun X19 => post 1 X19)))))) ∧ (¬ r8 = 0 → (post 1 X7))))))))))))
set_option maxHeartbeats 4000000 in
set_option maxRecDepth 100000 in
theorem lb_Judge_writeNext_draft {κ : Cx} {g : Gx} {M : ST} (hκ : CF κ g RX1 cX1_writeNext wq_X1_writeNext 4 rm_Judge_writeNext_draft) {post : Int32 → ST → Prop} (hR : RtxZ κ g 4 cX1_writeNext M post) {X : ST} {p2 : Int32} (h : wp_Judge_writeNext_draft X p2 post) : Jw κ g 4 X M [(0, .ref (g.2.1 8)), (1, .ref (g.2.1 10)), (2, .int p2)] 0 [] := by
  unfold wp_Judge_writeNext_draft at h
  refine j_aload_n (pc' := 1) hκ 0 rfl rfl dX1_writeNext_0 rfl ?_
  refine j_aload_n (pc' := 2) hκ 1 rfl rfl dX1_writeNext_1 rfl ?_
  refine jx_callVi (pc' := 5) hκ (c_Judge_writeTwins_draft (dg hκ) h) rfl rfl rfl (gV wm_38_21 wm_38_22 wm_38_23 wm_2_19 wm_39_0) hqV_X1_writeTwins ⟨Nat.le_of_ble_eq_true rfl, Nat.le_of_ble_eq_true rfl⟩ (wg_8 g _ _) rfl rfl rfl (Nat.le_of_ble_eq_true rfl) dX1_writeNext_2 rfl (fun r2 X1 h => ?_)
  refine j_if_ne (tgt := 35) (pc' := 8) hκ dX1_writeNext_5 (by decide) rfl (fun c => ?_) (fun c => ?_)
  · replace h := h.1 c
    refine j_iconst (pc' := 36) (v := 1) hκ (by decide) dX1_writeNext_35 rfl ?_
    exact hR _ _ _ _ dX1_writeNext_36 (Or.inr rfl) h
  · replace h := h.2 c
    refine j_aload_n (pc' := 9) hκ 0 rfl rfl dX1_writeNext_8 rfl ?_
    refine j_aload_n (pc' := 10) hκ 1 rfl rfl dX1_writeNext_9 rfl ?_
    refine j_iconst (pc' := 11) (v := 3) hκ (by decide) dX1_writeNext_10 rfl ?_
    refine jx_callVi (pc' := 14) hκ (c_Judge_writeAlone_draft (dg hκ) h) rfl rfl rfl (gV wm_39_13 wm_39_14 wm_39_15 wm_2_19 wm_39_16) hqV_X1_writeAlone ⟨Nat.le_of_ble_eq_true rfl, Nat.le_of_ble_eq_true rfl⟩ (wg_8 g _ _) rfl rfl rfl (Nat.le_of_ble_eq_true rfl) dX1_writeNext_11 rfl (fun r4 X3 h => ?_)
    refine j_if_ne (tgt := 35) (pc' := 17) hκ dX1_writeNext_14 (by decide) rfl (fun c => ?_) (fun c => ?_)
    · replace h := h.1 c
      refine j_iconst (pc' := 36) (v := 1) hκ (by decide) dX1_writeNext_35 rfl ?_
      exact hR _ _ _ _ dX1_writeNext_36 (Or.inr rfl) h
    · replace h := h.2 c
      refine j_aload_n (pc' := 18) hκ 0 rfl rfl dX1_writeNext_17 rfl ?_
      refine j_aload_n (pc' := 19) hκ 1 rfl rfl dX1_writeNext_18 rfl ?_
      refine j_iconst (pc' := 20) (v := 4) hκ (by decide) dX1_writeNext_19 rfl ?_
      refine jx_callVi (pc' := 23) hκ (c_Judge_writeAlone_draft (dg hκ) h) rfl rfl rfl (gV wm_39_13 wm_39_14 wm_39_15 wm_2_19 wm_39_16) hqV_X1_writeAlone ⟨Nat.le_of_ble_eq_true rfl, Nat.le_of_ble_eq_true rfl⟩ (wg_8 g _ _) rfl rfl rfl (Nat.le_of_ble_eq_true rfl) dX1_writeNext_20 rfl (fun r6 X5 h => ?_)
      refine j_if_ne (tgt := 35) (pc' := 26) hκ dX1_writeNext_23 (by decide) rfl (fun c => ?_) (fun c => ?_)
      · replace h := h.1 c
        refine j_iconst (pc' := 36) (v := 1) hκ (by decide) dX1_writeNext_35 rfl ?_
        exact hR _ _ _ _ dX1_writeNext_36 (Or.inr rfl) h
      · replace h := h.2 c
        refine j_aload_n (pc' := 27) hκ 0 rfl rfl dX1_writeNext_26 rfl ?_
        refine j_aload_n (pc' := 28) hκ 1 rfl rfl dX1_writeNext_27 rfl ?_
        refine j_iconst (pc' := 29) (v := 5) hκ (by decide) dX1_writeNext_28 rfl ?_
        refine jx_callVi (pc' := 32) hκ (c_Judge_writeAlone_draft (dg hκ) h) rfl rfl rfl (gV wm_39_13 wm_39_14 wm_39_15 wm_2_19 wm_39_16) hqV_X1_writeAlone ⟨Nat.le_of_ble_eq_true rfl, Nat.le_of_ble_eq_true rfl⟩ (wg_8 g _ _) rfl rfl rfl (Nat.le_of_ble_eq_true rfl) dX1_writeNext_29 rfl (fun r8 X7 h => ?_)
        refine j_if_eq (tgt := 37) (pc' := 35) hκ dX1_writeNext_32 (by decide) rfl (fun c => ?_) (fun c => ?_)
        · replace h := h.1 c
          refine j_aload_n (pc' := 38) hκ 0 rfl rfl dX1_writeNext_37 rfl ?_
          refine j_iload_n (pc' := 39) hκ 2 rfl rfl dX1_writeNext_38 rfl ?_
          refine jx_callVi (pc' := 42) hκ (c_Judge_pricesStand (dg hκ) h) rfl rfl rfl (gV wm_40_8 wm_40_9 wm_40_10 wm_2_19 wm_40_11) hqV_X1_pricesStand ⟨Nat.le_of_ble_eq_true rfl, Nat.le_of_ble_eq_true rfl⟩ (wg_8 g _ _) rfl rfl rfl (Nat.le_of_ble_eq_true rfl) dX1_writeNext_39 rfl (fun r10 X9 h => ?_)
          refine j_if_eq (tgt := 54) (pc' := 45) hκ dX1_writeNext_42 (by decide) rfl (fun c => ?_) (fun c => ?_)
          · replace h := h.1 c
            refine j_aload_n (pc' := 55) hκ 0 rfl rfl dX1_writeNext_54 rfl ?_
            refine jg_8_2 (pc' := 58) hκ (mi inlX1) (fl_in hκ (mc wm_6_22)) dX1_writeNext_55 rfl ?_
            refine jx_callVi (pc' := 61) hκ (c_Tree_firstFreePair (dg hκ) h) rfl rfl rfl (gV wm_40_14 wm_40_15 wm_40_16 wm_2_15 wm_40_17) hqV_X8_firstFreePair ⟨Nat.le_of_ble_eq_true rfl, Nat.le_of_ble_eq_true rfl⟩ (wg_7 g _ _) rfl rfl rfl (Nat.le_of_ble_eq_true rfl) dX1_writeNext_58 rfl (fun r12 X11 h => ?_)
            refine j_istore_n (pc' := 62) (lv' := [(3, .int r12), (0, .ref (g.2.1 8)), (1, .ref (g.2.1 10)), (2, .int p2)]) hκ (Nat.le_of_ble_eq_true rfl) rfl rfl dX1_writeNext_61 rfl ?_
            refine j_iload_n (pc' := 63) hκ 0 rfl rfl dX1_writeNext_62 rfl ?_
            refine j_iconst (pc' := 64) (v := (-1)) hκ (by decide) dX1_writeNext_63 rfl ?_
            refine j_icmp_ne (tgt := 69) (pc' := 67) hκ dX1_writeNext_64 (by decide) rfl (fun c => ?_) (fun c => ?_)
            · replace h := h.1 c
              refine j_aload_n (pc' := 70) hκ 2 rfl rfl dX1_writeNext_69 rfl ?_
              refine j_iconst (pc' := 71) (v := 1) hκ (by decide) dX1_writeNext_70 rfl ?_
              refine j_iload_n (pc' := 72) hκ 0 rfl rfl dX1_writeNext_71 rfl ?_
              refine jx_callNi (pc' := 75) hκ (c_LR_lesserOf (dg hκ) h) rfl rfl rfl (gN wm_34_11) 8 rfl (mc wm_1_2) (mc wm_34_10) hqS_X9_lesserOf ⟨Nat.le_of_ble_eq_true rfl, Nat.le_of_ble_eq_true rfl⟩ rfl rfl (Nat.le_of_ble_eq_true rfl) dX1_writeNext_72 rfl (fun r14 X13 h => ?_)
              refine j_iload_n (pc' := 76) hκ 0 rfl rfl dX1_writeNext_75 rfl ?_
              refine jx_callNi (pc' := 79) hκ (c_LR_greaterOf (dg hκ) h) rfl rfl rfl (gN wm_34_13) 9 rfl (mc wm_1_2) (mc wm_34_12) hqS_X9_greaterOf ⟨Nat.le_of_ble_eq_true rfl, Nat.le_of_ble_eq_true rfl⟩ rfl rfl (Nat.le_of_ble_eq_true rfl) dX1_writeNext_76 rfl (fun r16 X15 h => ?_)
              refine jx_callVv (pc' := 82) hκ (c_draft_append (dg hκ) h) rfl rfl rfl (gV wm_39_5 wm_39_6 wm_39_7 wm_2_23 wm_39_8) hqV_X3_append ⟨Nat.le_of_ble_eq_true rfl, Nat.le_of_ble_eq_true rfl⟩ (wg_10 g _ _) rfl rfl rfl (Nat.le_of_ble_eq_true rfl) dX1_writeNext_79 rfl (fun X17 h => ?_)
              refine j_iconst (pc' := 83) (v := 1) hκ (by decide) dX1_writeNext_82 rfl ?_
              exact hR _ _ _ _ dX1_writeNext_83 (Or.inr rfl) h
            · replace h := h.2 c
              refine j_iconst (pc' := 68) (v := 0) hκ (by decide) dX1_writeNext_67 rfl ?_
              exact hR _ _ _ _ dX1_writeNext_68 (Or.inl rfl) h
          · replace h := h.2 c
            refine j_aload_n (pc' := 46) hκ 1 rfl rfl dX1_writeNext_45 rfl ?_
            refine j_iconst (pc' := 47) (v := 2) hκ (by decide) dX1_writeNext_46 rfl ?_
            refine j_iconst (pc' := 48) (v := 0) hκ (by decide) dX1_writeNext_47 rfl ?_
            refine j_iconst (pc' := 49) (v := 0) hκ (by decide) dX1_writeNext_48 rfl ?_
            refine jx_callVv (pc' := 52) hκ (c_draft_append (dg hκ) h) rfl rfl rfl (gV wm_39_5 wm_39_6 wm_39_7 wm_2_23 wm_39_8) hqV_X3_append ⟨Nat.le_of_ble_eq_true rfl, Nat.le_of_ble_eq_true rfl⟩ (wg_10 g _ _) rfl rfl rfl (Nat.le_of_ble_eq_true rfl) dX1_writeNext_49 rfl (fun X19 h => ?_)
            refine j_iconst (pc' := 53) (v := 1) hκ (by decide) dX1_writeNext_52 rfl ?_
            exact hR _ _ _ _ dX1_writeNext_53 (Or.inr rfl) h
        · replace h := h.2 c
          refine j_iconst (pc' := 36) (v := 1) hκ (by decide) dX1_writeNext_35 rfl ?_
          exact hR _ _ _ _ dX1_writeNext_36 (Or.inr rfl) h
theorem c_Judge_writeNext_draft {g : Gx} (hg : Dg g) {X M : ST} {p2 : Int32} {post : Int32 → ST → Prop} (h : wp_Judge_writeNext_draft X p2 post) (l : Launch) : Met l yX1_writeNext wq_X1_writeNext rm_Judge_writeNext_draft (va_Pc [.ref (g.2.1 8), .ref (g.2.1 10), .int p2] (PU g X M)) (va_Qi post (fun Y t => va_P g.1 vwCl (ww g Y M) t.heap) (wA g)) 0 0 (wA g) :=
  met_xz hg (by decide) rfl [.ref (g.2.1 8), .ref (g.2.1 10), .int p2] rfl (Nat.le_of_ble_eq_true rfl) (fun κ hκ hR => lb_Judge_writeNext_draft hκ hR h) l
theorem wm_38_17 : Cond.methodLink RX1 53 yX1_writeNext ∈ wAll := inr_38 (List.mem_of_getElem? (i := 17) rfl)
theorem wm_38_18 : Cond.instanceMethod yX1_writeNext ∈ wAll := inr_38 (List.mem_of_getElem? (i := 18) rfl)
theorem wm_38_19 : Cond.selects RX1 yX1_writeNext yX1_writeNext ∈ wAll := inr_38 (List.mem_of_getElem? (i := 19) rfl)
theorem wm_38_20 : Cond.code yX1_writeNext cX1_writeNext 4 (some .boolean) ∈ wAll := inr_38 (List.mem_of_getElem? (i := 20) rfl)
theorem hqV_X1_writeNext : yX1_writeNext.cls = RX1 ∧ yX1_writeNext.cls ≠ "java/lang/invoke/MethodHandle" ∧ yX1_writeNext.cls ≠ "java/lang/invoke/VarHandle" ∧ (parseMethodDescriptor yX1_writeNext.desc).map (fun d => d.parameters.length) = some 2 := by decide +kernel
theorem wm_6_0 : Cond.fieldLink RX0 21 "LampRound$Case" "isSecond" "[Z" ∈ wAll := inr_6 (List.mem_of_getElem? (i := 0) rfl)
theorem wm_5_23 : Cond.fieldLink RX0 18 "LampRound$Case" "split" "[I" ∈ wAll := inr_5 (List.mem_of_getElem? (i := 23) rfl)
abbrev rm_Case_toggle : Room := { frames := 1, cells := 0, slots := 0, locals := 20 }
def wp_Case_toggle (X : ST) (k1 n1 : Nat) (p2 : Int32) (post : ST → Prop) : Prop :=
  wp_LR_lesserOf X p2 (fun r2 X1 => wp_LR_greaterOf X1 p2 (fun r4 X3 => vp_in r2 n1 ∧ (vp_in r2 n1 ∧ (∀ X5 : ST, X5 = ks_sA X3 k1 (upd (X3.2.2.1 k1) r2.toNatClampNeg ((X3.2.2.1 k1 r2.toNatClampNeg) ^^^ ((1 : Int32) <<< (r4 &&& 31)))) → vp_in r4 n1 ∧ (vp_in r4 n1 ∧ (∀ X6 : ST, X6 = ks_sA X5 k1 (upd (X5.2.2.1 k1) r4.toNatClampNeg ((X5.2.2.1 k1 r4.toNatClampNeg) ^^^ ((1 : Int32) <<< (r2 &&& 31)))) → post X6))))))
set_option maxHeartbeats 4000000 in
set_option maxRecDepth 100000 in
theorem lb_Case_toggle {κ : Cx} {g : Gx} {M : ST} (hκ : CF κ g RX0 cX0_toggle wq_X0_toggle 5 rm_Case_toggle) {post : ST → Prop} (hR : RtxV κ g 5 cX0_toggle M post) {X : ST} {k1 n1 : Nat} {p2 : Int32} {a1 q1 : Nat} (hh1 : ahI g q1 k1 n1 a1) (h : wp_Case_toggle X k1 n1 p2 post) : Jw κ g 5 X M [(0, .ref (g.2.1 6)), (1, .ref a1), (2, .int p2)] 0 [] := by
  unfold wp_Case_toggle at h
  refine j_iload_n (pc' := 1) hκ 2 rfl rfl dX0_toggle_0 rfl ?_
  refine jx_callNi (pc' := 4) hκ (c_LR_lesserOf (dg hκ) h) rfl rfl rfl (gN wm_34_11) 5 rfl (mc wm_1_2) (mc wm_34_10) hqS_X9_lesserOf ⟨Nat.le_of_ble_eq_true rfl, Nat.le_of_ble_eq_true rfl⟩ rfl rfl (Nat.le_of_ble_eq_true rfl) dX0_toggle_1 rfl (fun r2 X1 h => ?_)
  refine j_istore_n (pc' := 5) (lv' := [(3, .int r2), (0, .ref (g.2.1 6)), (1, .ref a1), (2, .int p2)]) hκ (Nat.le_of_ble_eq_true rfl) rfl rfl dX0_toggle_4 rfl ?_
  refine j_iload_n (pc' := 6) hκ 3 rfl rfl dX0_toggle_5 rfl ?_
  refine jx_callNi (pc' := 9) hκ (c_LR_greaterOf (dg hκ) h) rfl rfl rfl (gN wm_34_13) 6 rfl (mc wm_1_2) (mc wm_34_12) hqS_X9_greaterOf ⟨Nat.le_of_ble_eq_true rfl, Nat.le_of_ble_eq_true rfl⟩ rfl rfl (Nat.le_of_ble_eq_true rfl) dX0_toggle_6 rfl (fun r4 X3 h => ?_)
  refine j_istore (pc' := 11) (lv' := [(4, .int r4), (3, .int r2), (0, .ref (g.2.1 6)), (1, .ref a1), (2, .int p2)]) hκ (Nat.le_of_ble_eq_true rfl) rfl dX0_toggle_9 rfl ?_
  refine j_aload_n (pc' := 12) hκ 3 rfl rfl dX0_toggle_11 rfl ?_
  refine j_iload_n (pc' := 13) hκ 1 rfl rfl dX0_toggle_12 rfl ?_
  refine j_dup2 (pc' := 14) hκ rfl rfl dX0_toggle_13 rfl ?_
  refine jx_iald (pc' := 15) hκ hh1 h.1 dX0_toggle_14 rfl ?_
  replace h := h.2
  refine j_iconst (pc' := 16) (v := 1) hκ (by decide) dX0_toggle_15 rfl ?_
  refine j_iload (pc' := 18) hκ 0 rfl dX0_toggle_16 rfl ?_
  refine j_ishl (pc' := 19) hκ dX0_toggle_18 rfl ?_
  refine j_ixor (pc' := 20) hκ dX0_toggle_19 rfl ?_
  refine jx_iast (pc' := 21) hκ hh1 h.1 dX0_toggle_20 rfl ?_
  replace h := h.2
  refine j_nmX (fun X5 eX5 => ?_)
  replace h := h X5 eX5
  refine j_aload_n (pc' := 22) hκ 3 rfl rfl dX0_toggle_21 rfl ?_
  refine j_iload (pc' := 24) hκ 0 rfl dX0_toggle_22 rfl ?_
  refine j_dup2 (pc' := 25) hκ rfl rfl dX0_toggle_24 rfl ?_
  refine jx_iald (pc' := 26) hκ hh1 h.1 dX0_toggle_25 rfl ?_
  replace h := h.2
  refine j_iconst (pc' := 27) (v := 1) hκ (by decide) dX0_toggle_26 rfl ?_
  refine j_iload_n (pc' := 28) hκ 1 rfl rfl dX0_toggle_27 rfl ?_
  refine j_ishl (pc' := 29) hκ dX0_toggle_28 rfl ?_
  refine j_ixor (pc' := 30) hκ dX0_toggle_29 rfl ?_
  refine jx_iast (pc' := 31) hκ hh1 h.1 dX0_toggle_30 rfl ?_
  replace h := h.2
  refine j_nmX (fun X6 eX6 => ?_)
  replace h := h X6 eX6
  exact hR _ _ _ dX0_toggle_31 h
theorem c_Case_toggle {g : Gx} (hg : Dg g) {X M : ST} {k1 n1 : Nat} {p2 : Int32} {a1 q1 : Nat} (hh1 : ahI g q1 k1 n1 a1) {post : ST → Prop} (h : wp_Case_toggle X k1 n1 p2 post) (l : Launch) : Met l yX0_toggle wq_X0_toggle rm_Case_toggle (va_Pc [.ref (g.2.1 6), .ref a1, .int p2] (PU g X M)) (va_Qv post (fun Y t => va_P g.1 vwCl (ww g Y M) t.heap) (wA g)) 0 0 (wA g) :=
  met_xv hg (by decide) rfl [.ref (g.2.1 6), .ref a1, .int p2] rfl (Nat.le_of_ble_eq_true rfl) (fun κ hκ hR => lb_Case_toggle hκ hR hh1 h) l
theorem wm_41_6 : Cond.methodLink RX0 47 yX0_toggle ∈ wAll := inr_41 (List.mem_of_getElem? (i := 6) rfl)
theorem wm_41_7 : Cond.instanceMethod yX0_toggle ∈ wAll := inr_41 (List.mem_of_getElem? (i := 7) rfl)
theorem wm_41_8 : Cond.selects RX0 yX0_toggle yX0_toggle ∈ wAll := inr_41 (List.mem_of_getElem? (i := 8) rfl)
theorem wm_41_9 : Cond.code yX0_toggle cX0_toggle 5 none ∈ wAll := inr_41 (List.mem_of_getElem? (i := 9) rfl)
theorem hqV_X0_toggle : yX0_toggle.cls = RX0 ∧ yX0_toggle.cls ≠ "java/lang/invoke/MethodHandle" ∧ yX0_toggle.cls ≠ "java/lang/invoke/VarHandle" ∧ (parseMethodDescriptor yX0_toggle.desc).map (fun d => d.parameters.length) = some 2 := by decide +kernel
abbrev rm_Case_goOn : Room := { frames := 2, cells := 0, slots := 0, locals := 44 }
def wp_Case_goOn_51 (post : ST → Prop) (X : ST) : Prop :=
  (¬ (x_Case_depth X) = 0 → (vp_in ((x_Case_depth X) - 1) 66 ∧ (∀ X1 : ST, X1 = xs_Case_isSecond X (upd (x_Case_isSecond X) ((x_Case_depth X) - 1).toNatClampNeg (vp_nar .boolean 1)) → vp_in ((x_Case_depth X1) - 1) 66 ∧ (wp_Case_toggle X1 34 12 (x_Case_split X1 ((x_Case_depth X1) - 1).toNatClampNeg) (fun X2 => vp_in ((x_Case_depth X2) - 1) 66 ∧ (wp_Case_toggle X2 35 12 (x_Case_split X2 ((x_Case_depth X2) - 1).toNatClampNeg) (fun X4 => post X4))))))) ∧ ((x_Case_depth X) = 0 → (∀ X6 : ST, X6 = xs_Case_isOver X 1 → post X6))
set_option maxHeartbeats 4000000 in
set_option maxRecDepth 100000 in
theorem lb_Case_goOn_51 {κ : Cx} {g : Gx} {M : ST} (hκ : CF κ g RX0 cX0_goOn wq_X0_goOn 1 rm_Case_goOn) {post : ST → Prop} (hR : RtxV κ g 1 cX0_goOn M post) : ∀ (X : ST), wp_Case_goOn_51 post X → Jw κ g 1 X M [(0, .ref (g.2.1 6))] 51 [] := by
  intro X  h
  unfold wp_Case_goOn_51 at h
  refine j_aload_n (pc' := 52) hκ 0 rfl rfl dX0_goOn_51 rfl ?_
  refine jg_6_4 (pc' := 55) hκ (mi inlX0) (fl_in hκ (mc wm_6_1)) dX0_goOn_52 rfl ?_
  refine j_if_ne (tgt := 64) (pc' := 58) hκ dX0_goOn_55 (by decide) rfl (fun c => ?_) (fun c => ?_)
  · replace h := h.1 c
    refine j_aload_n (pc' := 65) hκ 0 rfl rfl dX0_goOn_64 rfl ?_
    refine jg_6_3 (pc' := 68) hκ (mi inlX0) (fl_in hκ (mc wm_6_0)) dX0_goOn_65 rfl ?_
    refine j_aload_n (pc' := 69) hκ 0 rfl rfl dX0_goOn_68 rfl ?_
    refine jg_6_4 (pc' := 72) hκ (mi inlX0) (fl_in hκ (mc wm_6_1)) dX0_goOn_69 rfl ?_
    refine j_iconst (pc' := 73) (v := 1) hκ (by decide) dX0_goOn_72 rfl ?_
    refine j_isub (pc' := 74) hκ dX0_goOn_73 rfl ?_
    refine j_iconst (pc' := 75) (v := 1) hκ (by decide) dX0_goOn_74 rfl ?_
    refine jx_zast (pc' := 76) hκ (ah_37 g) h.1 dX0_goOn_75 rfl ?_
    replace h := h.2
    refine j_nmX (fun X1 eX1 => ?_)
    replace h := h X1 eX1
    refine j_aload_n (pc' := 77) hκ 0 rfl rfl dX0_goOn_76 rfl ?_
    refine j_aload_n (pc' := 78) hκ 0 rfl rfl dX0_goOn_77 rfl ?_
    refine jg_6_0 (pc' := 81) hκ (mi inlX0) (fl_in hκ (mc wm_5_21)) dX0_goOn_78 rfl ?_
    refine j_aload_n (pc' := 82) hκ 0 rfl rfl dX0_goOn_81 rfl ?_
    refine jg_6_2 (pc' := 85) hκ (mi inlX0) (fl_in hκ (mc wm_5_23)) dX0_goOn_82 rfl ?_
    refine j_aload_n (pc' := 86) hκ 0 rfl rfl dX0_goOn_85 rfl ?_
    refine jg_6_4 (pc' := 89) hκ (mi inlX0) (fl_in hκ (mc wm_6_1)) dX0_goOn_86 rfl ?_
    refine j_iconst (pc' := 90) (v := 1) hκ (by decide) dX0_goOn_89 rfl ?_
    refine j_isub (pc' := 91) hκ dX0_goOn_90 rfl ?_
    refine jx_iald (pc' := 92) hκ (ah_36 g) h.1 dX0_goOn_91 rfl ?_
    replace h := h.2
    refine jx_callVv (pc' := 95) hκ (c_Case_toggle (dg hκ) (ah_34 g) h) rfl rfl rfl (gV wm_41_6 wm_41_7 wm_41_8 wm_2_11 wm_41_9) hqV_X0_toggle ⟨Nat.le_of_ble_eq_true rfl, Nat.le_of_ble_eq_true rfl⟩ (wg_6 g _ _) rfl rfl rfl (Nat.le_of_ble_eq_true rfl) dX0_goOn_92 rfl (fun X2 h => ?_)
    refine j_aload_n (pc' := 96) hκ 0 rfl rfl dX0_goOn_95 rfl ?_
    refine j_aload_n (pc' := 97) hκ 0 rfl rfl dX0_goOn_96 rfl ?_
    refine jg_6_1 (pc' := 100) hκ (mi inlX0) (fl_in hκ (mc wm_5_22)) dX0_goOn_97 rfl ?_
    refine j_aload_n (pc' := 101) hκ 0 rfl rfl dX0_goOn_100 rfl ?_
    refine jg_6_2 (pc' := 104) hκ (mi inlX0) (fl_in hκ (mc wm_5_23)) dX0_goOn_101 rfl ?_
    refine j_aload_n (pc' := 105) hκ 0 rfl rfl dX0_goOn_104 rfl ?_
    refine jg_6_4 (pc' := 108) hκ (mi inlX0) (fl_in hκ (mc wm_6_1)) dX0_goOn_105 rfl ?_
    refine j_iconst (pc' := 109) (v := 1) hκ (by decide) dX0_goOn_108 rfl ?_
    refine j_isub (pc' := 110) hκ dX0_goOn_109 rfl ?_
    refine jx_iald (pc' := 111) hκ (ah_36 g) h.1 dX0_goOn_110 rfl ?_
    replace h := h.2
    refine jx_callVv (pc' := 114) hκ (c_Case_toggle (dg hκ) (ah_35 g) h) rfl rfl rfl (gV wm_41_6 wm_41_7 wm_41_8 wm_2_11 wm_41_9) hqV_X0_toggle ⟨Nat.le_of_ble_eq_true rfl, Nat.le_of_ble_eq_true rfl⟩ (wg_6 g _ _) rfl rfl rfl (Nat.le_of_ble_eq_true rfl) dX0_goOn_111 rfl (fun X4 h => ?_)
    exact hR _ _ _ dX0_goOn_114 h
  · replace h := h.2 c
    refine j_aload_n (pc' := 59) hκ 0 rfl rfl dX0_goOn_58 rfl ?_
    refine j_iconst (pc' := 60) (v := 1) hκ (by decide) dX0_goOn_59 rfl ?_
    refine jp_6_5 (pc' := 63) hκ (mi inlX0) (fl_in hκ (mc wm_6_2)) (Or.inr rfl) dX0_goOn_60 rfl ?_
    refine j_nmX (fun X6 eX6 => ?_)
    replace h := h X6 eX6
    exact hR _ _ _ dX0_goOn_63 h
def wp_Case_goOn_0_s (K51 : ST → Prop) (post : ST → Prop) (rec : ST → Prop) (X : ST) : Prop :=
  ((x_Case_depth X) ≤ 0 → (K51 X)) ∧ (¬ (x_Case_depth X) ≤ 0 → (vp_in ((x_Case_depth X) - 1) 66 ∧ (((x_Case_isSecond X ((x_Case_depth X) - 1).toNatClampNeg) = 0 → (K51 X)) ∧ (¬ (x_Case_isSecond X ((x_Case_depth X) - 1).toNatClampNeg) = 0 → (∀ X10 : ST, X10 = xs_Case_depth X ((x_Case_depth X) - 1) → vp_in (x_Case_depth X10) 66 ∧ (wp_Case_toggle X10 35 12 (x_Case_split X10 (x_Case_depth X10).toNatClampNeg) (fun X11 => rec X11)))))))
def wp_Case_goOn_0 (K51 : ST → Prop) (post : ST → Prop) : Nat → ST → Prop
  | 0 => fun _ => False
  | n + 1 => wp_Case_goOn_0_s K51 post (wp_Case_goOn_0 K51 post n)
set_option maxHeartbeats 4000000 in
set_option maxRecDepth 100000 in
theorem lb_Case_goOn_0 {κ : Cx} {g : Gx} {M : ST} (hκ : CF κ g RX0 cX0_goOn wq_X0_goOn 1 rm_Case_goOn) {post : ST → Prop} (hR : RtxV κ g 1 cX0_goOn M post) {K51 : ST → Prop} (hK51 : ∀ (X : ST), K51 X → Jw κ g 1 X M [(0, .ref (g.2.1 6))] 51 []) : ∀ (n : Nat) (X : ST), wp_Case_goOn_0 K51 post n X → Jw κ g 1 X M [(0, .ref (g.2.1 6))] 0 [] := by
  intro n
  induction n with
  | zero =>
    intro X  h
    exact h.elim
  | succ n ih =>
    intro X  h
    have h : wp_Case_goOn_0_s K51 post (wp_Case_goOn_0 K51 post n) X := h
    unfold wp_Case_goOn_0_s at h
    refine j_aload_n (pc' := 1) hκ 0 rfl rfl dX0_goOn_0 rfl ?_
    refine jg_6_4 (pc' := 4) hκ (mi inlX0) (fl_in hκ (mc wm_6_1)) dX0_goOn_1 rfl ?_
    refine j_if_le (tgt := 51) (pc' := 7) hκ dX0_goOn_4 (by decide) rfl (fun c => ?_) (fun c => ?_)
    · replace h := h.1 c
      exact hK51 _  h
    · replace h := h.2 c
      refine j_aload_n (pc' := 8) hκ 0 rfl rfl dX0_goOn_7 rfl ?_
      refine jg_6_3 (pc' := 11) hκ (mi inlX0) (fl_in hκ (mc wm_6_0)) dX0_goOn_8 rfl ?_
      refine j_aload_n (pc' := 12) hκ 0 rfl rfl dX0_goOn_11 rfl ?_
      refine jg_6_4 (pc' := 15) hκ (mi inlX0) (fl_in hκ (mc wm_6_1)) dX0_goOn_12 rfl ?_
      refine j_iconst (pc' := 16) (v := 1) hκ (by decide) dX0_goOn_15 rfl ?_
      refine j_isub (pc' := 17) hκ dX0_goOn_16 rfl ?_
      refine jx_zald (pc' := 18) hκ (ah_37 g) h.1 dX0_goOn_17 rfl ?_
      replace h := h.2
      refine j_if_eq (tgt := 51) (pc' := 21) hκ dX0_goOn_18 (by decide) rfl (fun c => ?_) (fun c => ?_)
      · replace h := h.1 c
        exact hK51 _  h
      · replace h := h.2 c
        refine j_aload_n (pc' := 22) hκ 0 rfl rfl dX0_goOn_21 rfl ?_
        refine j_dup (pc' := 23) hκ rfl dX0_goOn_22 rfl ?_
        refine jg_6_4 (pc' := 26) hκ (mi inlX0) (fl_in hκ (mc wm_6_1)) dX0_goOn_23 rfl ?_
        refine j_iconst (pc' := 27) (v := 1) hκ (by decide) dX0_goOn_26 rfl ?_
        refine j_isub (pc' := 28) hκ dX0_goOn_27 rfl ?_
        refine jp_6_4 (pc' := 31) hκ (mi inlX0) (fl_in hκ (mc wm_6_1)) dX0_goOn_28 rfl ?_
        refine j_nmX (fun X10 eX10 => ?_)
        replace h := h X10 eX10
        refine j_aload_n (pc' := 32) hκ 0 rfl rfl dX0_goOn_31 rfl ?_
        refine j_aload_n (pc' := 33) hκ 0 rfl rfl dX0_goOn_32 rfl ?_
        refine jg_6_1 (pc' := 36) hκ (mi inlX0) (fl_in hκ (mc wm_5_22)) dX0_goOn_33 rfl ?_
        refine j_aload_n (pc' := 37) hκ 0 rfl rfl dX0_goOn_36 rfl ?_
        refine jg_6_2 (pc' := 40) hκ (mi inlX0) (fl_in hκ (mc wm_5_23)) dX0_goOn_37 rfl ?_
        refine j_aload_n (pc' := 41) hκ 0 rfl rfl dX0_goOn_40 rfl ?_
        refine jg_6_4 (pc' := 44) hκ (mi inlX0) (fl_in hκ (mc wm_6_1)) dX0_goOn_41 rfl ?_
        refine jx_iald (pc' := 45) hκ (ah_36 g) h.1 dX0_goOn_44 rfl ?_
        replace h := h.2
        refine jx_callVv (pc' := 48) hκ (c_Case_toggle (dg hκ) (ah_35 g) h) rfl rfl rfl (gV wm_41_6 wm_41_7 wm_41_8 wm_2_11 wm_41_9) hqV_X0_toggle ⟨Nat.le_of_ble_eq_true rfl, Nat.le_of_ble_eq_true rfl⟩ (wg_6 g _ _) rfl rfl rfl (Nat.le_of_ble_eq_true rfl) dX0_goOn_45 rfl (fun X11 h => ?_)
        refine j_goto (pc' := 0) hκ (by decide) dX0_goOn_48 ?_
        exact ih _  h
def wp_Case_goOn (X : ST) (post : ST → Prop) : Prop :=
  ((x_Case_depth X) ≤ 0 → (wp_Case_goOn_51 post X)) ∧ (¬ (x_Case_depth X) ≤ 0 → (vp_in ((x_Case_depth X) - 1) 66 ∧ (((x_Case_isSecond X ((x_Case_depth X) - 1).toNatClampNeg) = 0 → (wp_Case_goOn_51 post X)) ∧ (¬ (x_Case_isSecond X ((x_Case_depth X) - 1).toNatClampNeg) = 0 → (∀ X7 : ST, X7 = xs_Case_depth X ((x_Case_depth X) - 1) → vp_in (x_Case_depth X7) 66 ∧ (wp_Case_toggle X7 35 12 (x_Case_split X7 (x_Case_depth X7).toNatClampNeg) (fun X8 => ∃ n, wp_Case_goOn_0 (fun X13 => wp_Case_goOn_51 post X13) post n X8)))))))
set_option maxHeartbeats 4000000 in
set_option maxRecDepth 100000 in
theorem lb_Case_goOn {κ : Cx} {g : Gx} {M : ST} (hκ : CF κ g RX0 cX0_goOn wq_X0_goOn 1 rm_Case_goOn) {post : ST → Prop} (hR : RtxV κ g 1 cX0_goOn M post) {X : ST} (h : wp_Case_goOn X post) : Jw κ g 1 X M [(0, .ref (g.2.1 6))] 0 [] := by
  unfold wp_Case_goOn at h
  refine j_aload_n (pc' := 1) hκ 0 rfl rfl dX0_goOn_0 rfl ?_
  refine jg_6_4 (pc' := 4) hκ (mi inlX0) (fl_in hκ (mc wm_6_1)) dX0_goOn_1 rfl ?_
  refine j_if_le (tgt := 51) (pc' := 7) hκ dX0_goOn_4 (by decide) rfl (fun c => ?_) (fun c => ?_)
  · replace h := h.1 c
    refine lb_Case_goOn_51 hκ hR _  h
  · replace h := h.2 c
    refine j_aload_n (pc' := 8) hκ 0 rfl rfl dX0_goOn_7 rfl ?_
    refine jg_6_3 (pc' := 11) hκ (mi inlX0) (fl_in hκ (mc wm_6_0)) dX0_goOn_8 rfl ?_
    refine j_aload_n (pc' := 12) hκ 0 rfl rfl dX0_goOn_11 rfl ?_
    refine jg_6_4 (pc' := 15) hκ (mi inlX0) (fl_in hκ (mc wm_6_1)) dX0_goOn_12 rfl ?_
    refine j_iconst (pc' := 16) (v := 1) hκ (by decide) dX0_goOn_15 rfl ?_
    refine j_isub (pc' := 17) hκ dX0_goOn_16 rfl ?_
    refine jx_zald (pc' := 18) hκ (ah_37 g) h.1 dX0_goOn_17 rfl ?_
    replace h := h.2
    refine j_if_eq (tgt := 51) (pc' := 21) hκ dX0_goOn_18 (by decide) rfl (fun c => ?_) (fun c => ?_)
    · replace h := h.1 c
      refine lb_Case_goOn_51 hκ hR _  h
    · replace h := h.2 c
      refine j_aload_n (pc' := 22) hκ 0 rfl rfl dX0_goOn_21 rfl ?_
      refine j_dup (pc' := 23) hκ rfl dX0_goOn_22 rfl ?_
      refine jg_6_4 (pc' := 26) hκ (mi inlX0) (fl_in hκ (mc wm_6_1)) dX0_goOn_23 rfl ?_
      refine j_iconst (pc' := 27) (v := 1) hκ (by decide) dX0_goOn_26 rfl ?_
      refine j_isub (pc' := 28) hκ dX0_goOn_27 rfl ?_
      refine jp_6_4 (pc' := 31) hκ (mi inlX0) (fl_in hκ (mc wm_6_1)) dX0_goOn_28 rfl ?_
      refine j_nmX (fun X7 eX7 => ?_)
      replace h := h X7 eX7
      refine j_aload_n (pc' := 32) hκ 0 rfl rfl dX0_goOn_31 rfl ?_
      refine j_aload_n (pc' := 33) hκ 0 rfl rfl dX0_goOn_32 rfl ?_
      refine jg_6_1 (pc' := 36) hκ (mi inlX0) (fl_in hκ (mc wm_5_22)) dX0_goOn_33 rfl ?_
      refine j_aload_n (pc' := 37) hκ 0 rfl rfl dX0_goOn_36 rfl ?_
      refine jg_6_2 (pc' := 40) hκ (mi inlX0) (fl_in hκ (mc wm_5_23)) dX0_goOn_37 rfl ?_
      refine j_aload_n (pc' := 41) hκ 0 rfl rfl dX0_goOn_40 rfl ?_
      refine jg_6_4 (pc' := 44) hκ (mi inlX0) (fl_in hκ (mc wm_6_1)) dX0_goOn_41 rfl ?_
      refine jx_iald (pc' := 45) hκ (ah_36 g) h.1 dX0_goOn_44 rfl ?_
      replace h := h.2
      refine jx_callVv (pc' := 48) hκ (c_Case_toggle (dg hκ) (ah_35 g) h) rfl rfl rfl (gV wm_41_6 wm_41_7 wm_41_8 wm_2_11 wm_41_9) hqV_X0_toggle ⟨Nat.le_of_ble_eq_true rfl, Nat.le_of_ble_eq_true rfl⟩ (wg_6 g _ _) rfl rfl rfl (Nat.le_of_ble_eq_true rfl) dX0_goOn_45 rfl (fun X8 h => ?_)
      refine j_goto (pc' := 0) hκ (by decide) dX0_goOn_48 ?_
      obtain ⟨n, h⟩ := h
      refine lb_Case_goOn_0 hκ hR ?_ n _  h
      intro X13  h
      refine lb_Case_goOn_51 hκ hR _  h
theorem c_Case_goOn {g : Gx} (hg : Dg g) {X M : ST} {post : ST → Prop} (h : wp_Case_goOn X post) (l : Launch) : Met l yX0_goOn wq_X0_goOn rm_Case_goOn (va_Pc [.ref (g.2.1 6)] (PU g X M)) (va_Qv post (fun Y t => va_P g.1 vwCl (ww g Y M) t.heap) (wA g)) 0 0 (wA g) :=
  met_xv hg (by decide) rfl [.ref (g.2.1 6)] rfl (Nat.le_of_ble_eq_true rfl) (fun κ hκ hR => lb_Case_goOn hκ hR h) l
theorem wm_41_10 : Cond.methodLink RX1 61 yX0_goOn ∈ wAll := inr_41 (List.mem_of_getElem? (i := 10) rfl)
theorem wm_41_11 : Cond.instanceMethod yX0_goOn ∈ wAll := inr_41 (List.mem_of_getElem? (i := 11) rfl)
theorem wm_41_12 : Cond.selects RX0 yX0_goOn yX0_goOn ∈ wAll := inr_41 (List.mem_of_getElem? (i := 12) rfl)
theorem wm_41_13 : Cond.code yX0_goOn cX0_goOn 1 none ∈ wAll := inr_41 (List.mem_of_getElem? (i := 13) rfl)
theorem hqV_X0_goOn : yX0_goOn.cls = RX0 ∧ yX0_goOn.cls ≠ "java/lang/invoke/MethodHandle" ∧ yX0_goOn.cls ≠ "java/lang/invoke/VarHandle" ∧ (parseMethodDescriptor yX0_goOn.desc).map (fun d => d.parameters.length) = some 0 := by decide +kernel
abbrev rm_Case_splitBy : Room := { frames := 2, cells := 0, slots := 0, locals := 44 }
def wp_Case_splitBy (X : ST) (p1 : Int32) (p2 : Int32) (post : ST → Prop) : Prop :=
  ((x_Case_depth X) < 66 → (wp_LR_pairOf X p1 p2 (fun r2 X1 => vp_in (x_Case_depth X) 66 ∧ (∀ X3 : ST, X3 = xs_Case_split X1 (upd (x_Case_split X1) (x_Case_depth X).toNatClampNeg r2) → vp_in (x_Case_depth X3) 66 ∧ (∀ X4 : ST, X4 = xs_Case_isSecond X3 (upd (x_Case_isSecond X3) (x_Case_depth X3).toNatClampNeg (vp_nar .boolean 0)) → vp_in (x_Case_depth X4) 66 ∧ (wp_Case_toggle X4 34 12 (x_Case_split X4 (x_Case_depth X4).toNatClampNeg) (fun X5 => ∀ X7 : ST, X7 = xs_Case_depth X5 ((x_Case_depth X5) + 1) → post X7))))))) ∧ (¬ (x_Case_depth X) < 66 → (post X))
set_option maxHeartbeats 4000000 in
set_option maxRecDepth 100000 in
theorem lb_Case_splitBy {κ : Cx} {g : Gx} {M : ST} (hκ : CF κ g RX0 cX0_splitBy wq_X0_splitBy 3 rm_Case_splitBy) {post : ST → Prop} (hR : RtxV κ g 3 cX0_splitBy M post) {X : ST} {p1 : Int32} {p2 : Int32} (h : wp_Case_splitBy X p1 p2 post) : Jw κ g 3 X M [(0, .ref (g.2.1 6)), (1, .int p1), (2, .int p2)] 0 [] := by
  unfold wp_Case_splitBy at h
  refine j_aload_n (pc' := 1) hκ 0 rfl rfl dX0_splitBy_0 rfl ?_
  refine jg_6_4 (pc' := 4) hκ (mi inlX0) (fl_in hκ (mc wm_6_1)) dX0_splitBy_1 rfl ?_
  refine j_bipush (pc' := 6) (v := 66) hκ (by decide) dX0_splitBy_4 rfl ?_
  refine j_icmp_lt (tgt := 10) (pc' := 9) hκ dX0_splitBy_6 (by decide) rfl (fun c => ?_) (fun c => ?_)
  · replace h := h.1 c
    refine j_aload_n (pc' := 11) hκ 0 rfl rfl dX0_splitBy_10 rfl ?_
    refine jg_6_2 (pc' := 14) hκ (mi inlX0) (fl_in hκ (mc wm_5_23)) dX0_splitBy_11 rfl ?_
    refine j_aload_n (pc' := 15) hκ 0 rfl rfl dX0_splitBy_14 rfl ?_
    refine jg_6_4 (pc' := 18) hκ (mi inlX0) (fl_in hκ (mc wm_6_1)) dX0_splitBy_15 rfl ?_
    refine j_iload_n (pc' := 19) hκ 1 rfl rfl dX0_splitBy_18 rfl ?_
    refine j_iload_n (pc' := 20) hκ 2 rfl rfl dX0_splitBy_19 rfl ?_
    refine jx_callNi (pc' := 23) hκ (c_LR_pairOf (dg hκ) h) rfl rfl rfl (gN wm_33_11) 4 rfl (mc wm_1_2) (mc wm_33_10) hqS_X9_pairOf ⟨Nat.le_of_ble_eq_true rfl, Nat.le_of_ble_eq_true rfl⟩ rfl rfl (Nat.le_of_ble_eq_true rfl) dX0_splitBy_20 rfl (fun r2 X1 h => ?_)
    refine jx_iast (pc' := 24) hκ (ah_36 g) h.1 dX0_splitBy_23 rfl ?_
    replace h := h.2
    refine j_nmX (fun X3 eX3 => ?_)
    replace h := h X3 eX3
    refine j_aload_n (pc' := 25) hκ 0 rfl rfl dX0_splitBy_24 rfl ?_
    refine jg_6_3 (pc' := 28) hκ (mi inlX0) (fl_in hκ (mc wm_6_0)) dX0_splitBy_25 rfl ?_
    refine j_aload_n (pc' := 29) hκ 0 rfl rfl dX0_splitBy_28 rfl ?_
    refine jg_6_4 (pc' := 32) hκ (mi inlX0) (fl_in hκ (mc wm_6_1)) dX0_splitBy_29 rfl ?_
    refine j_iconst (pc' := 33) (v := 0) hκ (by decide) dX0_splitBy_32 rfl ?_
    refine jx_zast (pc' := 34) hκ (ah_37 g) h.1 dX0_splitBy_33 rfl ?_
    replace h := h.2
    refine j_nmX (fun X4 eX4 => ?_)
    replace h := h X4 eX4
    refine j_aload_n (pc' := 35) hκ 0 rfl rfl dX0_splitBy_34 rfl ?_
    refine j_aload_n (pc' := 36) hκ 0 rfl rfl dX0_splitBy_35 rfl ?_
    refine jg_6_0 (pc' := 39) hκ (mi inlX0) (fl_in hκ (mc wm_5_21)) dX0_splitBy_36 rfl ?_
    refine j_aload_n (pc' := 40) hκ 0 rfl rfl dX0_splitBy_39 rfl ?_
    refine jg_6_2 (pc' := 43) hκ (mi inlX0) (fl_in hκ (mc wm_5_23)) dX0_splitBy_40 rfl ?_
    refine j_aload_n (pc' := 44) hκ 0 rfl rfl dX0_splitBy_43 rfl ?_
    refine jg_6_4 (pc' := 47) hκ (mi inlX0) (fl_in hκ (mc wm_6_1)) dX0_splitBy_44 rfl ?_
    refine jx_iald (pc' := 48) hκ (ah_36 g) h.1 dX0_splitBy_47 rfl ?_
    replace h := h.2
    refine jx_callVv (pc' := 51) hκ (c_Case_toggle (dg hκ) (ah_34 g) h) rfl rfl rfl (gV wm_41_6 wm_41_7 wm_41_8 wm_2_11 wm_41_9) hqV_X0_toggle ⟨Nat.le_of_ble_eq_true rfl, Nat.le_of_ble_eq_true rfl⟩ (wg_6 g _ _) rfl rfl rfl (Nat.le_of_ble_eq_true rfl) dX0_splitBy_48 rfl (fun X5 h => ?_)
    refine j_aload_n (pc' := 52) hκ 0 rfl rfl dX0_splitBy_51 rfl ?_
    refine j_dup (pc' := 53) hκ rfl dX0_splitBy_52 rfl ?_
    refine jg_6_4 (pc' := 56) hκ (mi inlX0) (fl_in hκ (mc wm_6_1)) dX0_splitBy_53 rfl ?_
    refine j_iconst (pc' := 57) (v := 1) hκ (by decide) dX0_splitBy_56 rfl ?_
    refine j_iadd (pc' := 58) hκ dX0_splitBy_57 rfl ?_
    refine jp_6_4 (pc' := 61) hκ (mi inlX0) (fl_in hκ (mc wm_6_1)) dX0_splitBy_58 rfl ?_
    refine j_nmX (fun X7 eX7 => ?_)
    replace h := h X7 eX7
    exact hR _ _ _ dX0_splitBy_61 h
  · replace h := h.2 c
    exact hR _ _ _ dX0_splitBy_9 h
theorem c_Case_splitBy {g : Gx} (hg : Dg g) {X M : ST} {p1 : Int32} {p2 : Int32} {post : ST → Prop} (h : wp_Case_splitBy X p1 p2 post) (l : Launch) : Met l yX0_splitBy wq_X0_splitBy rm_Case_splitBy (va_Pc [.ref (g.2.1 6), .int p1, .int p2] (PU g X M)) (va_Qv post (fun Y t => va_P g.1 vwCl (ww g Y M) t.heap) (wA g)) 0 0 (wA g) :=
  met_xv hg (by decide) rfl [.ref (g.2.1 6), .int p1, .int p2] rfl (Nat.le_of_ble_eq_true rfl) (fun κ hκ hR => lb_Case_splitBy hκ hR h) l
theorem wm_41_2 : Cond.methodLink RX1 57 yX0_splitBy ∈ wAll := inr_41 (List.mem_of_getElem? (i := 2) rfl)
theorem wm_41_3 : Cond.instanceMethod yX0_splitBy ∈ wAll := inr_41 (List.mem_of_getElem? (i := 3) rfl)
theorem wm_41_4 : Cond.selects RX0 yX0_splitBy yX0_splitBy ∈ wAll := inr_41 (List.mem_of_getElem? (i := 4) rfl)
theorem wm_41_5 : Cond.code yX0_splitBy cX0_splitBy 3 none ∈ wAll := inr_41 (List.mem_of_getElem? (i := 5) rfl)
theorem hqV_X0_splitBy : yX0_splitBy.cls = RX0 ∧ yX0_splitBy.cls ≠ "java/lang/invoke/MethodHandle" ∧ yX0_splitBy.cls ≠ "java/lang/invoke/VarHandle" ∧ (parseMethodDescriptor yX0_splitBy.desc).map (fun d => d.parameters.length) = some 2 := by decide +kernel
abbrev rm_Judge_follow_draft : Room := { frames := 3, cells := 0, slots := 0, locals := 66 }
def wp_Judge_follow_draft (X : ST) (p2 : Int32) (post : ST → Prop) : Prop :=
  vp_in p2 400 ∧ ((¬ (x_draft_ops X p2.toNatClampNeg) = 1 → (wp_Case_goOn X (fun X1 => post X1))) ∧ ((x_draft_ops X p2.toNatClampNeg) = 1 → (vp_in p2 400 ∧ (vp_in p2 400 ∧ (wp_Case_splitBy X (x_draft_as X p2.toNatClampNeg) (x_draft_bs X p2.toNatClampNeg) (fun X3 => post X3))))))
set_option maxHeartbeats 4000000 in
set_option maxRecDepth 100000 in
theorem lb_Judge_follow_draft {κ : Cx} {g : Gx} {M : ST} (hκ : CF κ g RX1 cX1_follow wq_X1_follow 3 rm_Judge_follow_draft) {post : ST → Prop} (hR : RtxV κ g 3 cX1_follow M post) {X : ST} {p2 : Int32} (h : wp_Judge_follow_draft X p2 post) : Jw κ g 3 X M [(0, .ref (g.2.1 8)), (1, .ref (g.2.1 10)), (2, .int p2)] 0 [] := by
  unfold wp_Judge_follow_draft at h
  refine j_aload_n (pc' := 1) hκ 1 rfl rfl dX1_follow_0 rfl ?_
  refine jg_10_0 (pc' := 4) hκ (mi inlX3) (fl_ne hκ 31 rfl) dX1_follow_1 rfl ?_
  refine j_iload_n (pc' := 5) hκ 2 rfl rfl dX1_follow_4 rfl ?_
  refine jx_iald (pc' := 6) hκ (ah_44 g) h.1 dX1_follow_5 rfl ?_
  replace h := h.2
  refine j_iconst (pc' := 7) (v := 1) hκ (by decide) dX1_follow_6 rfl ?_
  refine j_icmp_ne (tgt := 32) (pc' := 10) hκ dX1_follow_7 (by decide) rfl (fun c => ?_) (fun c => ?_)
  · replace h := h.1 c
    refine j_aload_n (pc' := 33) hκ 0 rfl rfl dX1_follow_32 rfl ?_
    refine jg_8_1 (pc' := 36) hκ (mi inlX1) (fl_in hκ (mc wm_6_21)) dX1_follow_33 rfl ?_
    refine jx_callVv (pc' := 39) hκ (c_Case_goOn (dg hκ) h) rfl rfl rfl (gV wm_41_10 wm_41_11 wm_41_12 wm_2_11 wm_41_13) hqV_X0_goOn ⟨Nat.le_of_ble_eq_true rfl, Nat.le_of_ble_eq_true rfl⟩ (wg_6 g _ _) rfl rfl rfl (Nat.le_of_ble_eq_true rfl) dX1_follow_36 rfl (fun X1 h => ?_)
    exact hR _ _ _ dX1_follow_39 h
  · replace h := h.2 c
    refine j_aload_n (pc' := 11) hκ 0 rfl rfl dX1_follow_10 rfl ?_
    refine jg_8_1 (pc' := 14) hκ (mi inlX1) (fl_in hκ (mc wm_6_21)) dX1_follow_11 rfl ?_
    refine j_aload_n (pc' := 15) hκ 1 rfl rfl dX1_follow_14 rfl ?_
    refine jg_10_1 (pc' := 18) hκ (mi inlX3) (fl_ne hκ 32 rfl) dX1_follow_15 rfl ?_
    refine j_iload_n (pc' := 19) hκ 2 rfl rfl dX1_follow_18 rfl ?_
    refine jx_iald (pc' := 20) hκ (ah_45 g) h.1 dX1_follow_19 rfl ?_
    replace h := h.2
    refine j_aload_n (pc' := 21) hκ 1 rfl rfl dX1_follow_20 rfl ?_
    refine jg_10_2 (pc' := 24) hκ (mi inlX3) (fl_ne hκ 33 rfl) dX1_follow_21 rfl ?_
    refine j_iload_n (pc' := 25) hκ 2 rfl rfl dX1_follow_24 rfl ?_
    refine jx_iald (pc' := 26) hκ (ah_46 g) h.1 dX1_follow_25 rfl ?_
    replace h := h.2
    refine jx_callVv (pc' := 29) hκ (c_Case_splitBy (dg hκ) h) rfl rfl rfl (gV wm_41_2 wm_41_3 wm_41_4 wm_2_11 wm_41_5) hqV_X0_splitBy ⟨Nat.le_of_ble_eq_true rfl, Nat.le_of_ble_eq_true rfl⟩ (wg_6 g _ _) rfl rfl rfl (Nat.le_of_ble_eq_true rfl) dX1_follow_26 rfl (fun X3 h => ?_)
    refine j_goto (pc' := 39) hκ (by decide) dX1_follow_29 ?_
    exact hR _ _ _ dX1_follow_39 h
theorem c_Judge_follow_draft {g : Gx} (hg : Dg g) {X M : ST} {p2 : Int32} {post : ST → Prop} (h : wp_Judge_follow_draft X p2 post) (l : Launch) : Met l yX1_follow wq_X1_follow rm_Judge_follow_draft (va_Pc [.ref (g.2.1 8), .ref (g.2.1 10), .int p2] (PU g X M)) (va_Qv post (fun Y t => va_P g.1 vwCl (ww g Y M) t.heap) (wA g)) 0 0 (wA g) :=
  met_xv hg (by decide) rfl [.ref (g.2.1 8), .ref (g.2.1 10), .int p2] rfl (Nat.le_of_ble_eq_true rfl) (fun κ hκ hR => lb_Judge_follow_draft hκ hR h) l
theorem wm_40_22 : Cond.methodLink RX1 49 yX1_follow ∈ wAll := inr_40 (List.mem_of_getElem? (i := 22) rfl)
theorem wm_40_23 : Cond.instanceMethod yX1_follow ∈ wAll := inr_40 (List.mem_of_getElem? (i := 23) rfl)
theorem wm_41_0 : Cond.selects RX1 yX1_follow yX1_follow ∈ wAll := inr_41 (List.mem_of_getElem? (i := 0) rfl)
theorem wm_41_1 : Cond.code yX1_follow cX1_follow 3 none ∈ wAll := inr_41 (List.mem_of_getElem? (i := 1) rfl)
theorem hqV_X1_follow : yX1_follow.cls = RX1 ∧ yX1_follow.cls ≠ "java/lang/invoke/MethodHandle" ∧ yX1_follow.cls ≠ "java/lang/invoke/VarHandle" ∧ (parseMethodDescriptor yX1_follow.desc).map (fun d => d.parameters.length) = some 2 := by decide +kernel
abbrev rm_Judge_write_draft : Room := { frames := 6, cells := 0, slots := 0, locals := 136 }
def wp_Judge_write_draft_7_s (K33 : ST → Prop) (K47 : ST → Prop) (post : Int32 → ST → Prop) (rec : ST → Int32 → Int32 → Prop) (X : ST) (l2 : Int32) (l3 : Int32) : Prop :=
  (400 ≤ l3 → (K47 X)) ∧ (¬ 400 ≤ l3 → ((¬ (x_Case_isOver X) = 0 → (K47 X)) ∧ ((x_Case_isOver X) = 0 → (wp_Judge_writeNext_draft X l2 (fun r3 X2 => (¬ r3 = 0 → (wp_Judge_follow_draft X2 l3 (fun X4 => rec X4 l2 (l3 + 1)))) ∧ (r3 = 0 → (K33 X2)))))))
def wp_Judge_write_draft_7 (K33 : ST → Prop) (K47 : ST → Prop) (post : Int32 → ST → Prop) : Nat → ST → Int32 → Int32 → Prop
  | 0 => fun _ _ _ => False
  | n + 1 => wp_Judge_write_draft_7_s K33 K47 post (wp_Judge_write_draft_7 K33 K47 post n)
set_option maxHeartbeats 4000000 in
set_option maxRecDepth 100000 in
theorem lb_Judge_write_draft_7 {κ : Cx} {g : Gx} {M : ST} (hκ : CF κ g RX1 cX1_write wq_X1_write 4 rm_Judge_write_draft) {post : Int32 → ST → Prop} (hR : RtxZ κ g 4 cX1_write M post) {K33 : ST → Prop} {K47 : ST → Prop} (hK33 : ∀ (X : ST), K33 X → Jw κ g 4 X M [] 33 []) (hK47 : ∀ (X : ST), K47 X → Jw κ g 4 X M [(0, .ref (g.2.1 8))] 47 []) : ∀ (n : Nat) (X : ST) (l2 : Int32) (l3 : Int32), wp_Judge_write_draft_7 K33 K47 post n X l2 l3 → Jw κ g 4 X M [(0, .ref (g.2.1 8)), (1, .ref (g.2.1 10)), (2, .int l2), (3, .int l3)] 7 [] := by
  intro n
  induction n with
  | zero =>
    intro X l2 l3  h
    exact h.elim
  | succ n ih =>
    intro X l2 l3  h
    have h : wp_Judge_write_draft_7_s K33 K47 post (wp_Judge_write_draft_7 K33 K47 post n) X l2 l3 := h
    unfold wp_Judge_write_draft_7_s at h
    refine j_iload_n (pc' := 8) hκ 3 rfl rfl dX1_write_7 rfl ?_
    refine j_sipush (pc' := 11) (v := 400) hκ (by decide) dX1_write_8 rfl ?_
    refine j_icmp_ge (tgt := 47) (pc' := 14) hκ dX1_write_11 (by decide) rfl (fun c => ?_) (fun c => ?_)
    · replace h := h.1 c
      refine j_sub [0] rfl ?_
      exact hK47 _  h
    · replace h := h.2 c
      refine j_aload_n (pc' := 15) hκ 0 rfl rfl dX1_write_14 rfl ?_
      refine jg_8_1 (pc' := 18) hκ (mi inlX1) (fl_in hκ (mc wm_6_21)) dX1_write_15 rfl ?_
      refine jg_6_5 (pc' := 21) hκ (mi inlX0) (fl_ne hκ 30 rfl) dX1_write_18 rfl ?_
      refine j_if_ne (tgt := 47) (pc' := 24) hκ dX1_write_21 (by decide) rfl (fun c => ?_) (fun c => ?_)
      · replace h := h.1 c
        refine j_sub [0] rfl ?_
        exact hK47 _  h
      · replace h := h.2 c
        refine j_aload_n (pc' := 25) hκ 0 rfl rfl dX1_write_24 rfl ?_
        refine j_aload_n (pc' := 26) hκ 1 rfl rfl dX1_write_25 rfl ?_
        refine j_iload_n (pc' := 27) hκ 2 rfl rfl dX1_write_26 rfl ?_
        refine jx_callVi (pc' := 30) hκ (c_Judge_writeNext_draft (dg hκ) h) rfl rfl rfl (gV wm_38_17 wm_38_18 wm_38_19 wm_2_19 wm_38_20) hqV_X1_writeNext ⟨Nat.le_of_ble_eq_true rfl, Nat.le_of_ble_eq_true rfl⟩ (wg_8 g _ _) rfl rfl rfl (Nat.le_of_ble_eq_true rfl) dX1_write_27 rfl (fun r3 X2 h => ?_)
        refine j_if_ne (tgt := 35) (pc' := 33) hκ dX1_write_30 (by decide) rfl (fun c => ?_) (fun c => ?_)
        · replace h := h.1 c
          refine j_aload_n (pc' := 36) hκ 0 rfl rfl dX1_write_35 rfl ?_
          refine j_aload_n (pc' := 37) hκ 1 rfl rfl dX1_write_36 rfl ?_
          refine j_iload_n (pc' := 38) hκ 3 rfl rfl dX1_write_37 rfl ?_
          refine jx_callVv (pc' := 41) hκ (c_Judge_follow_draft (dg hκ) h) rfl rfl rfl (gV wm_40_22 wm_40_23 wm_41_0 wm_2_19 wm_41_1) hqV_X1_follow ⟨Nat.le_of_ble_eq_true rfl, Nat.le_of_ble_eq_true rfl⟩ (wg_8 g _ _) rfl rfl rfl (Nat.le_of_ble_eq_true rfl) dX1_write_38 rfl (fun X4 h => ?_)
          refine j_iinc (pc' := 44) (v := l3 + 1) (lv' := [(3, .int (l3 + 1)), (0, .ref (g.2.1 8)), (1, .ref (g.2.1 10)), (2, .int l2)]) hκ 3 rfl rfl (Nat.le_of_ble_eq_true rfl) rfl dX1_write_41 rfl ?_
          refine j_goto (pc' := 7) hκ (by decide) dX1_write_44 ?_
          refine j_sub [1, 2, 3, 0] rfl ?_
          exact ih _ _ _  h
        · replace h := h.2 c
          refine j_sub [] rfl ?_
          exact hK33 _  h
def wp_Judge_write_draft (X : ST) (p2 : Int32) (post : Int32 → ST → Prop) : Prop :=
  ∀ X1 : ST, X1 = xs_draft_count X 0 → ∃ n, wp_Judge_write_draft_7 (fun X6 => post 0 X6) (fun X7 => bz (x_Case_isOver X7) ∧ post (x_Case_isOver X7) X7) post n X1 p2 0
set_option maxHeartbeats 4000000 in
set_option maxRecDepth 100000 in
theorem lb_Judge_write_draft {κ : Cx} {g : Gx} {M : ST} (hκ : CF κ g RX1 cX1_write wq_X1_write 4 rm_Judge_write_draft) {post : Int32 → ST → Prop} (hR : RtxZ κ g 4 cX1_write M post) {X : ST} {p2 : Int32} (h : wp_Judge_write_draft X p2 post) : Jw κ g 4 X M [(0, .ref (g.2.1 8)), (1, .ref (g.2.1 10)), (2, .int p2)] 0 [] := by
  unfold wp_Judge_write_draft at h
  refine j_aload_n (pc' := 1) hκ 1 rfl rfl dX1_write_0 rfl ?_
  refine j_iconst (pc' := 2) (v := 0) hκ (by decide) dX1_write_1 rfl ?_
  refine jp_10_3 (pc' := 5) hκ (mi inlX3) (fl_ne hκ 29 rfl) dX1_write_2 rfl ?_
  refine j_nmX (fun X1 eX1 => ?_)
  replace h := h X1 eX1
  refine j_iconst (pc' := 6) (v := 0) hκ (by decide) dX1_write_5 rfl ?_
  refine j_istore_n (pc' := 7) (lv' := [(3, .int 0), (0, .ref (g.2.1 8)), (1, .ref (g.2.1 10)), (2, .int p2)]) hκ (Nat.le_of_ble_eq_true rfl) rfl rfl dX1_write_6 rfl ?_
  obtain ⟨n, h⟩ := h
  refine j_sub [1, 2, 3, 0] rfl ?_
  refine lb_Judge_write_draft_7 hκ hR ?_ ?_ n _ _ _  h
  · intro X6  h
    refine j_iconst (pc' := 34) (v := 0) hκ (by decide) dX1_write_33 rfl ?_
    exact hR _ _ _ _ dX1_write_34 (Or.inl rfl) h
  · intro X7  h
    refine j_aload_n (pc' := 48) hκ 0 rfl rfl dX1_write_47 rfl ?_
    refine jg_8_1 (pc' := 51) hκ (mi inlX1) (fl_in hκ (mc wm_6_21)) dX1_write_48 rfl ?_
    refine jg_6_5 (pc' := 54) hκ (mi inlX0) (fl_ne hκ 30 rfl) dX1_write_51 rfl ?_
    exact hR _ _ _ _ dX1_write_54 h.1 h.2
theorem c_Judge_write_draft {g : Gx} (hg : Dg g) {X M : ST} {p2 : Int32} {post : Int32 → ST → Prop} (h : wp_Judge_write_draft X p2 post) (l : Launch) : Met l yX1_write wq_X1_write rm_Judge_write_draft (va_Pc [.ref (g.2.1 8), .ref (g.2.1 10), .int p2] (PU g X M)) (va_Qi post (fun Y t => va_P g.1 vwCl (ww g Y M) t.heap) (wA g)) 0 0 (wA g) :=
  met_xz hg (by decide) rfl [.ref (g.2.1 8), .ref (g.2.1 10), .int p2] rfl (Nat.le_of_ble_eq_true rfl) (fun κ hκ hR => lb_Judge_write_draft hκ hR h) l
theorem wm_38_13 : Cond.methodLink RX9 316 yX1_write ∈ wAll := inr_38 (List.mem_of_getElem? (i := 13) rfl)
theorem wm_38_14 : Cond.instanceMethod yX1_write ∈ wAll := inr_38 (List.mem_of_getElem? (i := 14) rfl)
theorem wm_38_15 : Cond.selects RX1 yX1_write yX1_write ∈ wAll := inr_38 (List.mem_of_getElem? (i := 15) rfl)
theorem wm_38_16 : Cond.code yX1_write cX1_write 4 (some .boolean) ∈ wAll := inr_38 (List.mem_of_getElem? (i := 16) rfl)
theorem hqV_X1_write : yX1_write.cls = RX1 ∧ yX1_write.cls ≠ "java/lang/invoke/MethodHandle" ∧ yX1_write.cls ≠ "java/lang/invoke/VarHandle" ∧ (parseMethodDescriptor yX1_write.desc).map (fun d => d.parameters.length) = some 2 := by decide +kernel
theorem wm_41_18 : Cond.methodLink RX3 29 arraycopyName ∈ wAll := inr_41 (List.mem_of_getElem? (i := 18) rfl)
abbrev rm_proof_copyFrom_draft : Room := { frames := 1, cells := 0, slots := 0, locals := 26 }
def wp_proof_copyFrom_draft (X : ST) (post : ST → Prop) : Prop :=
  ¬ (0 : Int32) < 0 ∧ ¬ (0 : Int32) < 0 ∧ ¬ (x_draft_count X) < 0 ∧ (0 : Int32).toNatClampNeg + (x_draft_count X).toNatClampNeg ≤ 400 ∧ (0 : Int32).toNatClampNeg + (x_draft_count X).toNatClampNeg ≤ 400 ∧ (∀ X1 : ST, X1 = xs_proof_ops X (va_cpy (x_draft_ops X) (x_proof_ops X) (0 : Int32).toNatClampNeg (0 : Int32).toNatClampNeg (x_draft_count X).toNatClampNeg) → ¬ (0 : Int32) < 0 ∧ ¬ (0 : Int32) < 0 ∧ ¬ (x_draft_count X1) < 0 ∧ (0 : Int32).toNatClampNeg + (x_draft_count X1).toNatClampNeg ≤ 400 ∧ (0 : Int32).toNatClampNeg + (x_draft_count X1).toNatClampNeg ≤ 400 ∧ (∀ X2 : ST, X2 = xs_proof_as X1 (va_cpy (x_draft_as X1) (x_proof_as X1) (0 : Int32).toNatClampNeg (0 : Int32).toNatClampNeg (x_draft_count X1).toNatClampNeg) → ¬ (0 : Int32) < 0 ∧ ¬ (0 : Int32) < 0 ∧ ¬ (x_draft_count X2) < 0 ∧ (0 : Int32).toNatClampNeg + (x_draft_count X2).toNatClampNeg ≤ 400 ∧ (0 : Int32).toNatClampNeg + (x_draft_count X2).toNatClampNeg ≤ 400 ∧ (∀ X3 : ST, X3 = xs_proof_bs X2 (va_cpy (x_draft_bs X2) (x_proof_bs X2) (0 : Int32).toNatClampNeg (0 : Int32).toNatClampNeg (x_draft_count X2).toNatClampNeg) → ∀ X4 : ST, X4 = xs_proof_count X3 (x_draft_count X3) → post X4)))
set_option maxHeartbeats 4000000 in
set_option maxRecDepth 100000 in
theorem lb_proof_copyFrom_draft {κ : Cx} {g : Gx} {M : ST} (hκ : CF κ g RX3 cX3_copyFrom wq_X3_copyFrom 2 rm_proof_copyFrom_draft) {post : ST → Prop} (hR : RtxV κ g 2 cX3_copyFrom M post) {X : ST} (h : wp_proof_copyFrom_draft X post) : Jw κ g 2 X M [(0, .ref (g.2.1 9)), (1, .ref (g.2.1 10))] 0 [] := by
  unfold wp_proof_copyFrom_draft at h
  refine j_aload_n (pc' := 1) hκ 1 rfl rfl dX3_copyFrom_0 rfl ?_
  refine jg_10_0 (pc' := 4) hκ (mi inlX3) (fl_in hκ (mc wm_7_2)) dX3_copyFrom_1 rfl ?_
  refine j_iconst (pc' := 5) (v := 0) hκ (by decide) dX3_copyFrom_4 rfl ?_
  refine j_aload_n (pc' := 6) hκ 0 rfl rfl dX3_copyFrom_5 rfl ?_
  refine jg_9_0 (pc' := 9) hκ (mi inlX3) (fl_in hκ (mc wm_7_2)) dX3_copyFrom_6 rfl ?_
  refine j_iconst (pc' := 10) (v := 0) hκ (by decide) dX3_copyFrom_9 rfl ?_
  refine j_aload_n (pc' := 11) hκ 1 rfl rfl dX3_copyFrom_10 rfl ?_
  refine jg_10_3 (pc' := 14) hκ (mi inlX3) (fl_in hκ (mc wm_7_5)) dX3_copyFrom_11 rfl ?_
  refine jx_copyi (pc' := 17) hκ (ah_44 g) (ah_41 g) h.1 h.2.1 h.2.2.1 h.2.2.2.1 h.2.2.2.2.1 (mc wm_41_18) (mc wm_22_9) (mc wm_22_10) (mc wm_22_11) (Nat.le_of_ble_eq_true rfl) (Nat.le_of_ble_eq_true rfl) dX3_copyFrom_14 rfl ?_
  replace h := h.2.2.2.2.2
  refine j_nmX (fun X1 eX1 => ?_)
  replace h := h X1 eX1
  refine j_aload_n (pc' := 18) hκ 1 rfl rfl dX3_copyFrom_17 rfl ?_
  refine jg_10_1 (pc' := 21) hκ (mi inlX3) (fl_in hκ (mc wm_7_3)) dX3_copyFrom_18 rfl ?_
  refine j_iconst (pc' := 22) (v := 0) hκ (by decide) dX3_copyFrom_21 rfl ?_
  refine j_aload_n (pc' := 23) hκ 0 rfl rfl dX3_copyFrom_22 rfl ?_
  refine jg_9_1 (pc' := 26) hκ (mi inlX3) (fl_in hκ (mc wm_7_3)) dX3_copyFrom_23 rfl ?_
  refine j_iconst (pc' := 27) (v := 0) hκ (by decide) dX3_copyFrom_26 rfl ?_
  refine j_aload_n (pc' := 28) hκ 1 rfl rfl dX3_copyFrom_27 rfl ?_
  refine jg_10_3 (pc' := 31) hκ (mi inlX3) (fl_in hκ (mc wm_7_5)) dX3_copyFrom_28 rfl ?_
  refine jx_copyi (pc' := 34) hκ (ah_45 g) (ah_42 g) h.1 h.2.1 h.2.2.1 h.2.2.2.1 h.2.2.2.2.1 (mc wm_41_18) (mc wm_22_9) (mc wm_22_10) (mc wm_22_11) (Nat.le_of_ble_eq_true rfl) (Nat.le_of_ble_eq_true rfl) dX3_copyFrom_31 rfl ?_
  replace h := h.2.2.2.2.2
  refine j_nmX (fun X2 eX2 => ?_)
  replace h := h X2 eX2
  refine j_aload_n (pc' := 35) hκ 1 rfl rfl dX3_copyFrom_34 rfl ?_
  refine jg_10_2 (pc' := 38) hκ (mi inlX3) (fl_in hκ (mc wm_7_4)) dX3_copyFrom_35 rfl ?_
  refine j_iconst (pc' := 39) (v := 0) hκ (by decide) dX3_copyFrom_38 rfl ?_
  refine j_aload_n (pc' := 40) hκ 0 rfl rfl dX3_copyFrom_39 rfl ?_
  refine jg_9_2 (pc' := 43) hκ (mi inlX3) (fl_in hκ (mc wm_7_4)) dX3_copyFrom_40 rfl ?_
  refine j_iconst (pc' := 44) (v := 0) hκ (by decide) dX3_copyFrom_43 rfl ?_
  refine j_aload_n (pc' := 45) hκ 1 rfl rfl dX3_copyFrom_44 rfl ?_
  refine jg_10_3 (pc' := 48) hκ (mi inlX3) (fl_in hκ (mc wm_7_5)) dX3_copyFrom_45 rfl ?_
  refine jx_copyi (pc' := 51) hκ (ah_46 g) (ah_43 g) h.1 h.2.1 h.2.2.1 h.2.2.2.1 h.2.2.2.2.1 (mc wm_41_18) (mc wm_22_9) (mc wm_22_10) (mc wm_22_11) (Nat.le_of_ble_eq_true rfl) (Nat.le_of_ble_eq_true rfl) dX3_copyFrom_48 rfl ?_
  replace h := h.2.2.2.2.2
  refine j_nmX (fun X3 eX3 => ?_)
  replace h := h X3 eX3
  refine j_aload_n (pc' := 52) hκ 0 rfl rfl dX3_copyFrom_51 rfl ?_
  refine j_aload_n (pc' := 53) hκ 1 rfl rfl dX3_copyFrom_52 rfl ?_
  refine jg_10_3 (pc' := 56) hκ (mi inlX3) (fl_in hκ (mc wm_7_5)) dX3_copyFrom_53 rfl ?_
  refine jp_9_3 (pc' := 59) hκ (mi inlX3) (fl_in hκ (mc wm_7_5)) dX3_copyFrom_56 rfl ?_
  refine j_nmX (fun X4 eX4 => ?_)
  replace h := h X4 eX4
  exact hR _ _ _ dX3_copyFrom_59 h
theorem c_proof_copyFrom_draft {g : Gx} (hg : Dg g) {X M : ST} {post : ST → Prop} (h : wp_proof_copyFrom_draft X post) (l : Launch) : Met l yX3_copyFrom wq_X3_copyFrom rm_proof_copyFrom_draft (va_Pc [.ref (g.2.1 9), .ref (g.2.1 10)] (PU g X M)) (va_Qv post (fun Y t => va_P g.1 vwCl (ww g Y M) t.heap) (wA g)) 0 0 (wA g) :=
  met_xv hg (by decide) rfl [.ref (g.2.1 9), .ref (g.2.1 10)] rfl (Nat.le_of_ble_eq_true rfl) (fun κ hκ hR => lb_proof_copyFrom_draft hκ hR h) l
theorem wm_41_14 : Cond.methodLink RX9 319 yX3_copyFrom ∈ wAll := inr_41 (List.mem_of_getElem? (i := 14) rfl)
theorem wm_41_15 : Cond.instanceMethod yX3_copyFrom ∈ wAll := inr_41 (List.mem_of_getElem? (i := 15) rfl)
theorem wm_41_16 : Cond.selects RX3 yX3_copyFrom yX3_copyFrom ∈ wAll := inr_41 (List.mem_of_getElem? (i := 16) rfl)
theorem wm_41_17 : Cond.code yX3_copyFrom cX3_copyFrom 2 none ∈ wAll := inr_41 (List.mem_of_getElem? (i := 17) rfl)
theorem hqV_X3_copyFrom : yX3_copyFrom.cls = RX3 ∧ yX3_copyFrom.cls ≠ "java/lang/invoke/MethodHandle" ∧ yX3_copyFrom.cls ≠ "java/lang/invoke/VarHandle" ∧ (parseMethodDescriptor yX3_copyFrom.desc).map (fun d => d.parameters.length) = some 1 := by decide +kernel
abbrev rm_LR_prove : Room := { frames := 7, cells := 0, slots := 0, locals := 159 }
def wp_LR_prove (X : ST) (p1 : Int32) (post : Int32 → ST → Prop) : Prop :=
  (0 ≤ p1 → (wp_LR_isTooSmall X (fun r2 X1 => (r2 = 0 → (wp_LR_beginEmptyCase X1 (fun X3 => wp_Judge_write_draft X3 p1 (fun r6 X5 => (¬ r6 = 0 → (wp_proof_copyFrom_draft X5 (fun X7 => post (x_proof_count X7) X7))) ∧ (r6 = 0 → (post (-9) X5)))))) ∧ (¬ r2 = 0 → (post (-4) X1))))) ∧ (¬ 0 ≤ p1 → (post (-1) X))
set_option maxHeartbeats 4000000 in
set_option maxRecDepth 100000 in
theorem lb_LR_prove {κ : Cx} {g : Gx} {M : ST} (hκ : CF κ g RX9 cX9_prove wq_X9_prove 2 rm_LR_prove) {post : Int32 → ST → Prop} (hR : RtxI κ g 2 cX9_prove M post) {X : ST} {p1 : Int32} (h : wp_LR_prove X p1 post) : Jw κ g 2 X M [(0, .ref (g.2.1 0)), (1, .int p1)] 0 [] := by
  unfold wp_LR_prove at h
  refine j_iload_n (pc' := 1) hκ 1 rfl rfl dX9_prove_0 rfl ?_
  refine j_if_ge (tgt := 6) (pc' := 4) hκ dX9_prove_1 (by decide) rfl (fun c => ?_) (fun c => ?_)
  · replace h := h.1 c
    refine j_aload_n (pc' := 7) hκ 0 rfl rfl dX9_prove_6 rfl ?_
    refine jx_callVi (pc' := 10) hκ (c_LR_isTooSmall (dg hκ) h) rfl rfl rfl (gV wm_32_5 wm_32_6 wm_32_7 wm_1_2 wm_32_8) hqV_X9_isTooSmall ⟨Nat.le_of_ble_eq_true rfl, Nat.le_of_ble_eq_true rfl⟩ (wg_0 g _ _) rfl rfl rfl (Nat.le_of_ble_eq_true rfl) dX9_prove_7 rfl (fun r2 X1 h => ?_)
    refine j_if_eq (tgt := 16) (pc' := 13) hκ dX9_prove_10 (by decide) rfl (fun c => ?_) (fun c => ?_)
    · replace h := h.1 c
      refine j_aload_n (pc' := 17) hκ 0 rfl rfl dX9_prove_16 rfl ?_
      refine jx_callVv (pc' := 20) hκ (c_LR_beginEmptyCase (dg hκ) h) rfl rfl rfl (gV wm_32_13 wm_32_14 wm_32_15 wm_1_2 wm_32_16) hqV_X9_beginEmptyCase ⟨Nat.le_of_ble_eq_true rfl, Nat.le_of_ble_eq_true rfl⟩ (wg_0 g _ _) rfl rfl rfl (Nat.le_of_ble_eq_true rfl) dX9_prove_17 rfl (fun X3 h => ?_)
      refine j_aload_n (pc' := 21) hκ 0 rfl rfl dX9_prove_20 rfl ?_
      refine jg_0_7 (pc' := 24) hκ (mi inlX9) (fl_in hκ (mc wm_2_20)) dX9_prove_21 rfl ?_
      refine j_aload_n (pc' := 25) hκ 0 rfl rfl dX9_prove_24 rfl ?_
      refine jg_0_9 (pc' := 28) hκ (mi inlX9) (fl_in hκ (mc wm_3_1)) dX9_prove_25 rfl ?_
      refine j_iload_n (pc' := 29) hκ 1 rfl rfl dX9_prove_28 rfl ?_
      refine jx_callVi (pc' := 32) hκ (c_Judge_write_draft (dg hκ) h) rfl rfl rfl (gV wm_38_13 wm_38_14 wm_38_15 wm_2_19 wm_38_16) hqV_X1_write ⟨Nat.le_of_ble_eq_true rfl, Nat.le_of_ble_eq_true rfl⟩ (wg_8 g _ _) rfl rfl rfl (Nat.le_of_ble_eq_true rfl) dX9_prove_29 rfl (fun r6 X5 h => ?_)
      refine j_if_ne (tgt := 38) (pc' := 35) hκ dX9_prove_32 (by decide) rfl (fun c => ?_) (fun c => ?_)
      · replace h := h.1 c
        refine j_aload_n (pc' := 39) hκ 0 rfl rfl dX9_prove_38 rfl ?_
        refine jg_0_8 (pc' := 42) hκ (mi inlX9) (fl_in hκ (mc wm_3_0)) dX9_prove_39 rfl ?_
        refine j_aload_n (pc' := 43) hκ 0 rfl rfl dX9_prove_42 rfl ?_
        refine jg_0_9 (pc' := 46) hκ (mi inlX9) (fl_in hκ (mc wm_3_1)) dX9_prove_43 rfl ?_
        refine jx_callVv (pc' := 49) hκ (c_proof_copyFrom_draft (dg hκ) h) rfl rfl rfl (gV wm_41_14 wm_41_15 wm_41_16 wm_2_23 wm_41_17) hqV_X3_copyFrom ⟨Nat.le_of_ble_eq_true rfl, Nat.le_of_ble_eq_true rfl⟩ (wg_9 g _ _) rfl rfl rfl (Nat.le_of_ble_eq_true rfl) dX9_prove_46 rfl (fun X7 h => ?_)
        refine j_aload_n (pc' := 50) hκ 0 rfl rfl dX9_prove_49 rfl ?_
        refine jg_0_8 (pc' := 53) hκ (mi inlX9) (fl_in hκ (mc wm_3_0)) dX9_prove_50 rfl ?_
        refine jg_9_3 (pc' := 56) hκ (mi inlX3) (fl_ne hκ 13 rfl) dX9_prove_53 rfl ?_
        exact hR _ _ _ _ dX9_prove_56 h
      · replace h := h.2 c
        refine j_bipush (pc' := 37) (v := (-9)) hκ (by decide) dX9_prove_35 rfl ?_
        exact hR _ _ _ _ dX9_prove_37 h
    · replace h := h.2 c
      refine j_bipush (pc' := 15) (v := (-4)) hκ (by decide) dX9_prove_13 rfl ?_
      exact hR _ _ _ _ dX9_prove_15 h
  · replace h := h.2 c
    refine j_iconst (pc' := 5) (v := (-1)) hκ (by decide) dX9_prove_4 rfl ?_
    exact hR _ _ _ _ dX9_prove_5 h
theorem c_LR_prove {g : Gx} (hg : Dg g) {X M : ST} {p1 : Int32} {post : Int32 → ST → Prop} (h : wp_LR_prove X p1 post) (l : Launch) : Met l yX9_prove wq_X9_prove rm_LR_prove (va_Pc [.ref (g.2.1 0), .int p1] (PU g X M)) (va_Qi post (fun Y t => va_P g.1 vwCl (ww g Y M) t.heap) (wA g)) 0 0 (wA g) :=
  met_xi hg (by decide) rfl [.ref (g.2.1 0), .int p1] rfl (Nat.le_of_ble_eq_true rfl) (fun κ hκ hR => lb_LR_prove hκ hR h) l
abbrev rm_LR_isOp : Room := { frames := 0, cells := 0, slots := 0, locals := 0 }
def wp_LR_isOp (X : ST) (p0 : Int32) (post : Int32 → ST → Prop) : Prop :=
  (p0 < 1 → (post 0 X)) ∧ (¬ p0 < 1 → ((6 < p0 → (post 0 X)) ∧ (¬ 6 < p0 → (post 1 X))))
set_option maxHeartbeats 4000000 in
set_option maxRecDepth 100000 in
theorem lb_LR_isOp {κ : Cx} {g : Gx} {M : ST} (hκ : CF κ g RX9 cX9_isOp wq_X9_isOp 1 rm_LR_isOp) {post : Int32 → ST → Prop} (hR : RtxZ κ g 1 cX9_isOp M post) {X : ST} {p0 : Int32} (h : wp_LR_isOp X p0 post) : Jw κ g 1 X M [(0, .int p0)] 0 [] := by
  unfold wp_LR_isOp at h
  refine j_iload_n (pc' := 1) hκ 0 rfl rfl dX9_isOp_0 rfl ?_
  refine j_iconst (pc' := 2) (v := 1) hκ (by decide) dX9_isOp_1 rfl ?_
  refine j_icmp_lt (tgt := 15) (pc' := 5) hκ dX9_isOp_2 (by decide) rfl (fun c => ?_) (fun c => ?_)
  · replace h := h.1 c
    refine j_iconst (pc' := 16) (v := 0) hκ (by decide) dX9_isOp_15 rfl ?_
    exact hR _ _ _ _ dX9_isOp_16 (Or.inl rfl) h
  · replace h := h.2 c
    refine j_iload_n (pc' := 6) hκ 0 rfl rfl dX9_isOp_5 rfl ?_
    refine j_bipush (pc' := 8) (v := 6) hκ (by decide) dX9_isOp_6 rfl ?_
    refine j_icmp_gt (tgt := 15) (pc' := 11) hκ dX9_isOp_8 (by decide) rfl (fun c => ?_) (fun c => ?_)
    · replace h := h.1 c
      refine j_iconst (pc' := 16) (v := 0) hκ (by decide) dX9_isOp_15 rfl ?_
      exact hR _ _ _ _ dX9_isOp_16 (Or.inl rfl) h
    · replace h := h.2 c
      refine j_iconst (pc' := 12) (v := 1) hκ (by decide) dX9_isOp_11 rfl ?_
      refine j_goto (pc' := 16) hκ (by decide) dX9_isOp_12 ?_
      exact hR _ _ _ _ dX9_isOp_16 (Or.inr rfl) h
theorem c_LR_isOp {g : Gx} (hg : Dg g) {X M : ST} {p0 : Int32} {post : Int32 → ST → Prop} (h : wp_LR_isOp X p0 post) (l : Launch) : Met l yX9_isOp wq_X9_isOp rm_LR_isOp (va_Pc [.int p0] (PU g X M)) (va_Qi post (fun Y t => va_P g.1 vwCl (ww g Y M) t.heap) (wA g)) 0 0 (wA g) :=
  met_xz hg (by decide) rfl [.int p0] rfl (Nat.le_of_ble_eq_true rfl) (fun κ hκ hR => lb_LR_isOp hκ hR h) l
theorem wm_44_12 : Cond.methodLink RX9 322 yX9_isOp ∈ wAll := inr_44 (List.mem_of_getElem? (i := 12) rfl)
theorem wm_44_13 : Cond.static yX9_isOp ∈ wAll := inr_44 (List.mem_of_getElem? (i := 13) rfl)
theorem wm_44_14 : Cond.code yX9_isOp cX9_isOp 1 (some .boolean) ∈ wAll := inr_44 (List.mem_of_getElem? (i := 14) rfl)
theorem hqS_X9_isOp : yX9_isOp.cls ≠ "java/lang/invoke/MethodHandle" ∧ yX9_isOp.cls ≠ "java/lang/invoke/VarHandle" ∧ (parseMethodDescriptor yX9_isOp.desc).map (fun d => d.parameters.length) = some 1 := by decide +kernel
abbrev rm_proof_write : Room := { frames := 0, cells := 0, slots := 0, locals := 0 }
def wp_proof_write (X : ST) (p1 : Int32) (p2 : Int32) (p3 : Int32) (p4 : Int32) (post : ST → Prop) : Prop :=
  vp_in p1 400 ∧ (∀ X1 : ST, X1 = xs_proof_ops X (upd (x_proof_ops X) p1.toNatClampNeg p2) → vp_in p1 400 ∧ (∀ X2 : ST, X2 = xs_proof_as X1 (upd (x_proof_as X1) p1.toNatClampNeg p3) → vp_in p1 400 ∧ (∀ X3 : ST, X3 = xs_proof_bs X2 (upd (x_proof_bs X2) p1.toNatClampNeg p4) → post X3)))
set_option maxHeartbeats 4000000 in
set_option maxRecDepth 100000 in
theorem lb_proof_write {κ : Cx} {g : Gx} {M : ST} (hκ : CF κ g RX3 cX3_write wq_X3_write 5 rm_proof_write) {post : ST → Prop} (hR : RtxV κ g 5 cX3_write M post) {X : ST} {p1 : Int32} {p2 : Int32} {p3 : Int32} {p4 : Int32} (h : wp_proof_write X p1 p2 p3 p4 post) : Jw κ g 5 X M [(0, .ref (g.2.1 9)), (1, .int p1), (2, .int p2), (3, .int p3), (4, .int p4)] 0 [] := by
  unfold wp_proof_write at h
  refine j_aload_n (pc' := 1) hκ 0 rfl rfl dX3_write_0 rfl ?_
  refine jg_9_0 (pc' := 4) hκ (mi inlX3) (fl_in hκ (mc wm_7_2)) dX3_write_1 rfl ?_
  refine j_iload_n (pc' := 5) hκ 1 rfl rfl dX3_write_4 rfl ?_
  refine j_iload_n (pc' := 6) hκ 2 rfl rfl dX3_write_5 rfl ?_
  refine jx_iast (pc' := 7) hκ (ah_41 g) h.1 dX3_write_6 rfl ?_
  replace h := h.2
  refine j_nmX (fun X1 eX1 => ?_)
  replace h := h X1 eX1
  refine j_aload_n (pc' := 8) hκ 0 rfl rfl dX3_write_7 rfl ?_
  refine jg_9_1 (pc' := 11) hκ (mi inlX3) (fl_in hκ (mc wm_7_3)) dX3_write_8 rfl ?_
  refine j_iload_n (pc' := 12) hκ 1 rfl rfl dX3_write_11 rfl ?_
  refine j_iload_n (pc' := 13) hκ 3 rfl rfl dX3_write_12 rfl ?_
  refine jx_iast (pc' := 14) hκ (ah_42 g) h.1 dX3_write_13 rfl ?_
  replace h := h.2
  refine j_nmX (fun X2 eX2 => ?_)
  replace h := h X2 eX2
  refine j_aload_n (pc' := 15) hκ 0 rfl rfl dX3_write_14 rfl ?_
  refine jg_9_2 (pc' := 18) hκ (mi inlX3) (fl_in hκ (mc wm_7_4)) dX3_write_15 rfl ?_
  refine j_iload_n (pc' := 19) hκ 1 rfl rfl dX3_write_18 rfl ?_
  refine j_iload (pc' := 21) hκ 4 rfl dX3_write_19 rfl ?_
  refine jx_iast (pc' := 22) hκ (ah_43 g) h.1 dX3_write_21 rfl ?_
  replace h := h.2
  refine j_nmX (fun X3 eX3 => ?_)
  replace h := h X3 eX3
  exact hR _ _ _ dX3_write_22 h
theorem c_proof_write {g : Gx} (hg : Dg g) {X M : ST} {p1 : Int32} {p2 : Int32} {p3 : Int32} {p4 : Int32} {post : ST → Prop} (h : wp_proof_write X p1 p2 p3 p4 post) (l : Launch) : Met l yX3_write wq_X3_write rm_proof_write (va_Pc [.ref (g.2.1 9), .int p1, .int p2, .int p3, .int p4] (PU g X M)) (va_Qv post (fun Y t => va_P g.1 vwCl (ww g Y M) t.heap) (wA g)) 0 0 (wA g) :=
  met_xv hg (by decide) rfl [.ref (g.2.1 9), .int p1, .int p2, .int p3, .int p4] rfl (Nat.le_of_ble_eq_true rfl) (fun κ hκ hR => lb_proof_write hκ hR h) l
abbrev rm_proof_append : Room := { frames := 1, cells := 0, slots := 0, locals := 24 }
def wp_proof_append (X : ST) (p1 : Int32) (p2 : Int32) (p3 : Int32) (post : ST → Prop) : Prop :=
  (400 ≤ (x_proof_count X) → (post X)) ∧ (¬ 400 ≤ (x_proof_count X) → (wp_proof_write X (x_proof_count X) p1 p2 p3 (fun X1 => ∀ X3 : ST, X3 = xs_proof_count X1 ((x_proof_count X1) + 1) → post X3)))
set_option maxHeartbeats 4000000 in
set_option maxRecDepth 100000 in
theorem lb_proof_append {κ : Cx} {g : Gx} {M : ST} (hκ : CF κ g RX3 cX3_append wq_X3_append 4 rm_proof_append) {post : ST → Prop} (hR : RtxV κ g 4 cX3_append M post) {X : ST} {p1 : Int32} {p2 : Int32} {p3 : Int32} (h : wp_proof_append X p1 p2 p3 post) : Jw κ g 4 X M [(0, .ref (g.2.1 9)), (1, .int p1), (2, .int p2), (3, .int p3)] 0 [] := by
  unfold wp_proof_append at h
  refine j_aload_n (pc' := 1) hκ 0 rfl rfl dX3_append_0 rfl ?_
  refine jg_9_3 (pc' := 4) hκ (mi inlX3) (fl_in hκ (mc wm_7_5)) dX3_append_1 rfl ?_
  refine j_sipush (pc' := 7) (v := 400) hκ (by decide) dX3_append_4 rfl ?_
  refine j_icmp_ge (tgt := 31) (pc' := 10) hκ dX3_append_7 (by decide) rfl (fun c => ?_) (fun c => ?_)
  · replace h := h.1 c
    exact hR _ _ _ dX3_append_31 h
  · replace h := h.2 c
    refine j_aload_n (pc' := 11) hκ 0 rfl rfl dX3_append_10 rfl ?_
    refine j_aload_n (pc' := 12) hκ 0 rfl rfl dX3_append_11 rfl ?_
    refine jg_9_3 (pc' := 15) hκ (mi inlX3) (fl_in hκ (mc wm_7_5)) dX3_append_12 rfl ?_
    refine j_iload_n (pc' := 16) hκ 1 rfl rfl dX3_append_15 rfl ?_
    refine j_iload_n (pc' := 17) hκ 2 rfl rfl dX3_append_16 rfl ?_
    refine j_iload_n (pc' := 18) hκ 3 rfl rfl dX3_append_17 rfl ?_
    refine jx_callVv (pc' := 21) hκ (c_proof_write (dg hκ) h) rfl rfl rfl (gV wm_39_9 wm_39_10 wm_39_11 wm_2_23 wm_39_12) hqV_X3_write ⟨Nat.le_of_ble_eq_true rfl, Nat.le_of_ble_eq_true rfl⟩ (wg_9 g _ _) rfl rfl rfl (Nat.le_of_ble_eq_true rfl) dX3_append_18 rfl (fun X1 h => ?_)
    refine j_aload_n (pc' := 22) hκ 0 rfl rfl dX3_append_21 rfl ?_
    refine j_dup (pc' := 23) hκ rfl dX3_append_22 rfl ?_
    refine jg_9_3 (pc' := 26) hκ (mi inlX3) (fl_in hκ (mc wm_7_5)) dX3_append_23 rfl ?_
    refine j_iconst (pc' := 27) (v := 1) hκ (by decide) dX3_append_26 rfl ?_
    refine j_iadd (pc' := 28) hκ dX3_append_27 rfl ?_
    refine jp_9_3 (pc' := 31) hκ (mi inlX3) (fl_in hκ (mc wm_7_5)) dX3_append_28 rfl ?_
    refine j_nmX (fun X3 eX3 => ?_)
    replace h := h X3 eX3
    exact hR _ _ _ dX3_append_31 h
theorem c_proof_append {g : Gx} (hg : Dg g) {X M : ST} {p1 : Int32} {p2 : Int32} {p3 : Int32} {post : ST → Prop} (h : wp_proof_append X p1 p2 p3 post) (l : Launch) : Met l yX3_append wq_X3_append rm_proof_append (va_Pc [.ref (g.2.1 9), .int p1, .int p2, .int p3] (PU g X M)) (va_Qv post (fun Y t => va_P g.1 vwCl (ww g Y M) t.heap) (wA g)) 0 0 (wA g) :=
  met_xv hg (by decide) rfl [.ref (g.2.1 9), .int p1, .int p2, .int p3] rfl (Nat.le_of_ble_eq_true rfl) (fun κ hκ hR => lb_proof_append hκ hR h) l
theorem wm_44_15 : Cond.methodLink RX9 325 yX3_append ∈ wAll := inr_44 (List.mem_of_getElem? (i := 15) rfl)
abbrev rm_LR_line : Room := { frames := 2, cells := 0, slots := 0, locals := 47 }
def wp_LR_line (X : ST) (p1 : Int32) (p2 : Int32) (p3 : Int32) (post : Int32 → ST → Prop) : Prop :=
  wp_LR_isOp X p1 (fun r2 X1 => (¬ r2 = 0 → (((x_proof_count X1) < 400 → (wp_proof_append X1 p1 p2 p3 (fun X3 => post (x_proof_count X3) X3))) ∧ (¬ (x_proof_count X1) < 400 → (post (-2) X1)))) ∧ (r2 = 0 → (post (-1) X1)))
set_option maxHeartbeats 4000000 in
set_option maxRecDepth 100000 in
theorem lb_LR_line {κ : Cx} {g : Gx} {M : ST} (hκ : CF κ g RX9 cX9_line wq_X9_line 4 rm_LR_line) {post : Int32 → ST → Prop} (hR : RtxI κ g 4 cX9_line M post) {X : ST} {p1 : Int32} {p2 : Int32} {p3 : Int32} (h : wp_LR_line X p1 p2 p3 post) : Jw κ g 4 X M [(0, .ref (g.2.1 0)), (1, .int p1), (2, .int p2), (3, .int p3)] 0 [] := by
  unfold wp_LR_line at h
  refine j_iload_n (pc' := 1) hκ 1 rfl rfl dX9_line_0 rfl ?_
  refine jx_callSi (pc' := 4) hκ (c_LR_isOp (dg hκ) h) rfl rfl rfl (gS wm_44_12 wm_44_13 wm_1_2 wm_44_14) hqS_X9_isOp ⟨Nat.le_of_ble_eq_true rfl, Nat.le_of_ble_eq_true rfl⟩ rfl rfl (Nat.le_of_ble_eq_true rfl) dX9_line_1 rfl (fun r2 X1 h => ?_)
  refine j_if_ne (tgt := 9) (pc' := 7) hκ dX9_line_4 (by decide) rfl (fun c => ?_) (fun c => ?_)
  · replace h := h.1 c
    refine j_aload_n (pc' := 10) hκ 0 rfl rfl dX9_line_9 rfl ?_
    refine jg_0_8 (pc' := 13) hκ (mi inlX9) (fl_in hκ (mc wm_3_0)) dX9_line_10 rfl ?_
    refine jg_9_3 (pc' := 16) hκ (mi inlX3) (fl_ne hκ 13 rfl) dX9_line_13 rfl ?_
    refine j_sipush (pc' := 19) (v := 400) hκ (by decide) dX9_line_16 rfl ?_
    refine j_icmp_lt (tgt := 25) (pc' := 22) hκ dX9_line_19 (by decide) rfl (fun c => ?_) (fun c => ?_)
    · replace h := h.1 c
      refine j_aload_n (pc' := 26) hκ 0 rfl rfl dX9_line_25 rfl ?_
      refine jg_0_8 (pc' := 29) hκ (mi inlX9) (fl_in hκ (mc wm_3_0)) dX9_line_26 rfl ?_
      refine j_iload_n (pc' := 30) hκ 1 rfl rfl dX9_line_29 rfl ?_
      refine j_iload_n (pc' := 31) hκ 2 rfl rfl dX9_line_30 rfl ?_
      refine j_iload_n (pc' := 32) hκ 3 rfl rfl dX9_line_31 rfl ?_
      refine jx_callVv (pc' := 35) hκ (c_proof_append (dg hκ) h) rfl rfl rfl (gV wm_44_15 wm_39_6 wm_39_7 wm_2_23 wm_39_8) hqV_X3_append ⟨Nat.le_of_ble_eq_true rfl, Nat.le_of_ble_eq_true rfl⟩ (wg_9 g _ _) rfl rfl rfl (Nat.le_of_ble_eq_true rfl) dX9_line_32 rfl (fun X3 h => ?_)
      refine j_aload_n (pc' := 36) hκ 0 rfl rfl dX9_line_35 rfl ?_
      refine jg_0_8 (pc' := 39) hκ (mi inlX9) (fl_in hκ (mc wm_3_0)) dX9_line_36 rfl ?_
      refine jg_9_3 (pc' := 42) hκ (mi inlX3) (fl_ne hκ 13 rfl) dX9_line_39 rfl ?_
      exact hR _ _ _ _ dX9_line_42 h
    · replace h := h.2 c
      refine j_bipush (pc' := 24) (v := (-2)) hκ (by decide) dX9_line_22 rfl ?_
      exact hR _ _ _ _ dX9_line_24 h
  · replace h := h.2 c
    refine j_iconst (pc' := 8) (v := (-1)) hκ (by decide) dX9_line_7 rfl ?_
    exact hR _ _ _ _ dX9_line_8 h
theorem c_LR_line {g : Gx} (hg : Dg g) {X M : ST} {p1 : Int32} {p2 : Int32} {p3 : Int32} {post : Int32 → ST → Prop} (h : wp_LR_line X p1 p2 p3 post) (l : Launch) : Met l yX9_line wq_X9_line rm_LR_line (va_Pc [.ref (g.2.1 0), .int p1, .int p2, .int p3] (PU g X M)) (va_Qi post (fun Y t => va_P g.1 vwCl (ww g Y M) t.heap) (wA g)) 0 0 (wA g) :=
  met_xi hg (by decide) rfl [.ref (g.2.1 0), .int p1, .int p2, .int p3] rfl (Nat.le_of_ble_eq_true rfl) (fun κ hκ hR => lb_LR_line hκ hR h) l
abbrev rm_proof_hasLine : Room := { frames := 0, cells := 0, slots := 0, locals := 0 }
def wp_proof_hasLine (X : ST) (p1 : Int32) (post : Int32 → ST → Prop) : Prop :=
  (p1 < 0 → (post 0 X)) ∧ (¬ p1 < 0 → (((x_proof_count X) ≤ p1 → (post 0 X)) ∧ (¬ (x_proof_count X) ≤ p1 → (post 1 X))))
set_option maxHeartbeats 4000000 in
set_option maxRecDepth 100000 in
theorem lb_proof_hasLine {κ : Cx} {g : Gx} {M : ST} (hκ : CF κ g RX3 cX3_hasLine wq_X3_hasLine 2 rm_proof_hasLine) {post : Int32 → ST → Prop} (hR : RtxZ κ g 2 cX3_hasLine M post) {X : ST} {p1 : Int32} (h : wp_proof_hasLine X p1 post) : Jw κ g 2 X M [(0, .ref (g.2.1 9)), (1, .int p1)] 0 [] := by
  unfold wp_proof_hasLine at h
  refine j_iload_n (pc' := 1) hκ 1 rfl rfl dX3_hasLine_0 rfl ?_
  refine j_if_lt (tgt := 16) (pc' := 4) hκ dX3_hasLine_1 (by decide) rfl (fun c => ?_) (fun c => ?_)
  · replace h := h.1 c
    refine j_iconst (pc' := 17) (v := 0) hκ (by decide) dX3_hasLine_16 rfl ?_
    exact hR _ _ _ _ dX3_hasLine_17 (Or.inl rfl) h
  · replace h := h.2 c
    refine j_iload_n (pc' := 5) hκ 1 rfl rfl dX3_hasLine_4 rfl ?_
    refine j_aload_n (pc' := 6) hκ 0 rfl rfl dX3_hasLine_5 rfl ?_
    refine jg_9_3 (pc' := 9) hκ (mi inlX3) (fl_in hκ (mc wm_7_5)) dX3_hasLine_6 rfl ?_
    refine j_icmp_ge (tgt := 16) (pc' := 12) hκ dX3_hasLine_9 (by decide) rfl (fun c => ?_) (fun c => ?_)
    · replace h := h.1 c
      refine j_iconst (pc' := 17) (v := 0) hκ (by decide) dX3_hasLine_16 rfl ?_
      exact hR _ _ _ _ dX3_hasLine_17 (Or.inl rfl) h
    · replace h := h.2 c
      refine j_iconst (pc' := 13) (v := 1) hκ (by decide) dX3_hasLine_12 rfl ?_
      refine j_goto (pc' := 17) hκ (by decide) dX3_hasLine_13 ?_
      exact hR _ _ _ _ dX3_hasLine_17 (Or.inr rfl) h
theorem c_proof_hasLine {g : Gx} (hg : Dg g) {X M : ST} {p1 : Int32} {post : Int32 → ST → Prop} (h : wp_proof_hasLine X p1 post) (l : Launch) : Met l yX3_hasLine wq_X3_hasLine rm_proof_hasLine (va_Pc [.ref (g.2.1 9), .int p1] (PU g X M)) (va_Qi post (fun Y t => va_P g.1 vwCl (ww g Y M) t.heap) (wA g)) 0 0 (wA g) :=
  met_xz hg (by decide) rfl [.ref (g.2.1 9), .int p1] rfl (Nat.le_of_ble_eq_true rfl) (fun κ hκ hR => lb_proof_hasLine hκ hR h) l
theorem wm_45_4 : Cond.methodLink RX9 327 yX3_hasLine ∈ wAll := inr_45 (List.mem_of_getElem? (i := 4) rfl)
theorem wm_45_5 : Cond.instanceMethod yX3_hasLine ∈ wAll := inr_45 (List.mem_of_getElem? (i := 5) rfl)
theorem wm_45_6 : Cond.selects RX3 yX3_hasLine yX3_hasLine ∈ wAll := inr_45 (List.mem_of_getElem? (i := 6) rfl)
theorem wm_45_7 : Cond.code yX3_hasLine cX3_hasLine 2 (some .boolean) ∈ wAll := inr_45 (List.mem_of_getElem? (i := 7) rfl)
theorem hqV_X3_hasLine : yX3_hasLine.cls = RX3 ∧ yX3_hasLine.cls ≠ "java/lang/invoke/MethodHandle" ∧ yX3_hasLine.cls ≠ "java/lang/invoke/VarHandle" ∧ (parseMethodDescriptor yX3_hasLine.desc).map (fun d => d.parameters.length) = some 1 := by decide +kernel
theorem wm_45_8 : Cond.methodLink RX9 330 yX3_write ∈ wAll := inr_45 (List.mem_of_getElem? (i := 8) rfl)
abbrev rm_LR_alter : Room := { frames := 1, cells := 0, slots := 0, locals := 24 }
def wp_LR_alter (X : ST) (p1 : Int32) (p2 : Int32) (p3 : Int32) (p4 : Int32) (post : Int32 → ST → Prop) : Prop :=
  wp_proof_hasLine X p1 (fun r2 X1 => (r2 = 0 → (post (-1) X1)) ∧ (¬ r2 = 0 → (wp_LR_isOp X1 p2 (fun r4 X3 => (¬ r4 = 0 → (wp_proof_write X3 p1 p2 p3 p4 (fun X5 => post 1 X5))) ∧ (r4 = 0 → (post (-1) X3))))))
set_option maxHeartbeats 4000000 in
set_option maxRecDepth 100000 in
theorem lb_LR_alter {κ : Cx} {g : Gx} {M : ST} (hκ : CF κ g RX9 cX9_alter wq_X9_alter 5 rm_LR_alter) {post : Int32 → ST → Prop} (hR : RtxI κ g 5 cX9_alter M post) {X : ST} {p1 : Int32} {p2 : Int32} {p3 : Int32} {p4 : Int32} (h : wp_LR_alter X p1 p2 p3 p4 post) : Jw κ g 5 X M [(0, .ref (g.2.1 0)), (1, .int p1), (2, .int p2), (3, .int p3), (4, .int p4)] 0 [] := by
  unfold wp_LR_alter at h
  refine j_aload_n (pc' := 1) hκ 0 rfl rfl dX9_alter_0 rfl ?_
  refine jg_0_8 (pc' := 4) hκ (mi inlX9) (fl_in hκ (mc wm_3_0)) dX9_alter_1 rfl ?_
  refine j_iload_n (pc' := 5) hκ 1 rfl rfl dX9_alter_4 rfl ?_
  refine jx_callVi (pc' := 8) hκ (c_proof_hasLine (dg hκ) h) rfl rfl rfl (gV wm_45_4 wm_45_5 wm_45_6 wm_2_23 wm_45_7) hqV_X3_hasLine ⟨Nat.le_of_ble_eq_true rfl, Nat.le_of_ble_eq_true rfl⟩ (wg_9 g _ _) rfl rfl rfl (Nat.le_of_ble_eq_true rfl) dX9_alter_5 rfl (fun r2 X1 h => ?_)
  refine j_if_eq (tgt := 18) (pc' := 11) hκ dX9_alter_8 (by decide) rfl (fun c => ?_) (fun c => ?_)
  · replace h := h.1 c
    refine j_iconst (pc' := 19) (v := (-1)) hκ (by decide) dX9_alter_18 rfl ?_
    exact hR _ _ _ _ dX9_alter_19 h
  · replace h := h.2 c
    refine j_iload_n (pc' := 12) hκ 2 rfl rfl dX9_alter_11 rfl ?_
    refine jx_callSi (pc' := 15) hκ (c_LR_isOp (dg hκ) h) rfl rfl rfl (gS wm_44_12 wm_44_13 wm_1_2 wm_44_14) hqS_X9_isOp ⟨Nat.le_of_ble_eq_true rfl, Nat.le_of_ble_eq_true rfl⟩ rfl rfl (Nat.le_of_ble_eq_true rfl) dX9_alter_12 rfl (fun r4 X3 h => ?_)
    refine j_if_ne (tgt := 20) (pc' := 18) hκ dX9_alter_15 (by decide) rfl (fun c => ?_) (fun c => ?_)
    · replace h := h.1 c
      refine j_aload_n (pc' := 21) hκ 0 rfl rfl dX9_alter_20 rfl ?_
      refine jg_0_8 (pc' := 24) hκ (mi inlX9) (fl_in hκ (mc wm_3_0)) dX9_alter_21 rfl ?_
      refine j_iload_n (pc' := 25) hκ 1 rfl rfl dX9_alter_24 rfl ?_
      refine j_iload_n (pc' := 26) hκ 2 rfl rfl dX9_alter_25 rfl ?_
      refine j_iload_n (pc' := 27) hκ 3 rfl rfl dX9_alter_26 rfl ?_
      refine j_iload (pc' := 29) hκ 4 rfl dX9_alter_27 rfl ?_
      refine jx_callVv (pc' := 32) hκ (c_proof_write (dg hκ) h) rfl rfl rfl (gV wm_45_8 wm_39_10 wm_39_11 wm_2_23 wm_39_12) hqV_X3_write ⟨Nat.le_of_ble_eq_true rfl, Nat.le_of_ble_eq_true rfl⟩ (wg_9 g _ _) rfl rfl rfl (Nat.le_of_ble_eq_true rfl) dX9_alter_29 rfl (fun X5 h => ?_)
      refine j_iconst (pc' := 33) (v := 1) hκ (by decide) dX9_alter_32 rfl ?_
      exact hR _ _ _ _ dX9_alter_33 h
    · replace h := h.2 c
      refine j_iconst (pc' := 19) (v := (-1)) hκ (by decide) dX9_alter_18 rfl ?_
      exact hR _ _ _ _ dX9_alter_19 h
theorem c_LR_alter {g : Gx} (hg : Dg g) {X M : ST} {p1 : Int32} {p2 : Int32} {p3 : Int32} {p4 : Int32} {post : Int32 → ST → Prop} (h : wp_LR_alter X p1 p2 p3 p4 post) (l : Launch) : Met l yX9_alter wq_X9_alter rm_LR_alter (va_Pc [.ref (g.2.1 0), .int p1, .int p2, .int p3, .int p4] (PU g X M)) (va_Qi post (fun Y t => va_P g.1 vwCl (ww g Y M) t.heap) (wA g)) 0 0 (wA g) :=
  met_xi hg (by decide) rfl [.ref (g.2.1 0), .int p1, .int p2, .int p3, .int p4] rfl (Nat.le_of_ble_eq_true rfl) (fun κ hκ hR => lb_LR_alter hκ hR h) l
abbrev rm_LR_cut : Room := { frames := 0, cells := 0, slots := 0, locals := 0 }
def wp_LR_cut (X : ST) (p1 : Int32) (post : Int32 → ST → Prop) : Prop :=
  (p1 < 0 → (post (-1) X)) ∧ (¬ p1 < 0 → ((p1 ≤ (x_proof_count X) → (∀ X1 : ST, X1 = xs_proof_count X p1 → post p1 X1)) ∧ (¬ p1 ≤ (x_proof_count X) → (post (-1) X))))
set_option maxHeartbeats 4000000 in
set_option maxRecDepth 100000 in
theorem lb_LR_cut {κ : Cx} {g : Gx} {M : ST} (hκ : CF κ g RX9 cX9_cut wq_X9_cut 2 rm_LR_cut) {post : Int32 → ST → Prop} (hR : RtxI κ g 2 cX9_cut M post) {X : ST} {p1 : Int32} (h : wp_LR_cut X p1 post) : Jw κ g 2 X M [(0, .ref (g.2.1 0)), (1, .int p1)] 0 [] := by
  unfold wp_LR_cut at h
  refine j_iload_n (pc' := 1) hκ 1 rfl rfl dX9_cut_0 rfl ?_
  refine j_if_lt (tgt := 15) (pc' := 4) hκ dX9_cut_1 (by decide) rfl (fun c => ?_) (fun c => ?_)
  · replace h := h.1 c
    refine j_iconst (pc' := 16) (v := (-1)) hκ (by decide) dX9_cut_15 rfl ?_
    exact hR _ _ _ _ dX9_cut_16 h
  · replace h := h.2 c
    refine j_iload_n (pc' := 5) hκ 1 rfl rfl dX9_cut_4 rfl ?_
    refine j_aload_n (pc' := 6) hκ 0 rfl rfl dX9_cut_5 rfl ?_
    refine jg_0_8 (pc' := 9) hκ (mi inlX9) (fl_in hκ (mc wm_3_0)) dX9_cut_6 rfl ?_
    refine jg_9_3 (pc' := 12) hκ (mi inlX3) (fl_ne hκ 13 rfl) dX9_cut_9 rfl ?_
    refine j_icmp_le (tgt := 17) (pc' := 15) hκ dX9_cut_12 (by decide) rfl (fun c => ?_) (fun c => ?_)
    · replace h := h.1 c
      refine j_aload_n (pc' := 18) hκ 0 rfl rfl dX9_cut_17 rfl ?_
      refine jg_0_8 (pc' := 21) hκ (mi inlX9) (fl_in hκ (mc wm_3_0)) dX9_cut_18 rfl ?_
      refine j_iload_n (pc' := 22) hκ 1 rfl rfl dX9_cut_21 rfl ?_
      refine jp_9_3 (pc' := 25) hκ (mi inlX3) (fl_ne hκ 13 rfl) dX9_cut_22 rfl ?_
      refine j_nmX (fun X1 eX1 => ?_)
      replace h := h X1 eX1
      refine j_iload_n (pc' := 26) hκ 1 rfl rfl dX9_cut_25 rfl ?_
      exact hR _ _ _ _ dX9_cut_26 h
    · replace h := h.2 c
      refine j_iconst (pc' := 16) (v := (-1)) hκ (by decide) dX9_cut_15 rfl ?_
      exact hR _ _ _ _ dX9_cut_16 h
theorem c_LR_cut {g : Gx} (hg : Dg g) {X M : ST} {p1 : Int32} {post : Int32 → ST → Prop} (h : wp_LR_cut X p1 post) (l : Launch) : Met l yX9_cut wq_X9_cut rm_LR_cut (va_Pc [.ref (g.2.1 0), .int p1] (PU g X M)) (va_Qi post (fun Y t => va_P g.1 vwCl (ww g Y M) t.heap) (wA g)) 0 0 (wA g) :=
  met_xi hg (by decide) rfl [.ref (g.2.1 0), .int p1] rfl (Nat.le_of_ble_eq_true rfl) (fun κ hκ hR => lb_LR_cut hκ hR h) l
abbrev rm_LR_shown : Room := { frames := 1, cells := 0, slots := 0, locals := 21 }
def wp_LR_shown (X : ST) (p1 : Int32) (p2 : Int32) (post : Int32 → ST → Prop) : Prop :=
  wp_proof_hasLine X p1 (fun r2 X1 => (¬ r2 = 0 → ((p2 = 0 → (vp_in p1 400 ∧ (post (x_proof_ops X1 p1.toNatClampNeg) X1))) ∧ (¬ p2 = 0 → ((p2 = 1 → (vp_in p1 400 ∧ (post (x_proof_as X1 p1.toNatClampNeg) X1))) ∧ (¬ p2 = 1 → ((p2 = 2 → (vp_in p1 400 ∧ (post (x_proof_bs X1 p1.toNatClampNeg) X1))) ∧ (¬ p2 = 2 → (post (-2147483648) X1)))))))) ∧ (r2 = 0 → (post (-2147483648) X1)))
set_option maxHeartbeats 4000000 in
set_option maxRecDepth 100000 in
theorem lb_LR_shown {κ : Cx} {g : Gx} {M : ST} (hκ : CF κ g RX9 cX9_shown wq_X9_shown 3 rm_LR_shown) {post : Int32 → ST → Prop} (hR : RtxI κ g 3 cX9_shown M post) {X : ST} {p1 : Int32} {p2 : Int32} (h : wp_LR_shown X p1 p2 post) : Jw κ g 3 X M [(0, .ref (g.2.1 0)), (1, .int p1), (2, .int p2)] 0 [] := by
  unfold wp_LR_shown at h
  refine j_aload_n (pc' := 1) hκ 0 rfl rfl dX9_shown_0 rfl ?_
  refine jg_0_8 (pc' := 4) hκ (mi inlX9) (fl_in hκ (mc wm_3_0)) dX9_shown_1 rfl ?_
  refine j_iload_n (pc' := 5) hκ 1 rfl rfl dX9_shown_4 rfl ?_
  refine jx_callVi (pc' := 8) hκ (c_proof_hasLine (dg hκ) h) rfl rfl rfl (gV wm_45_4 wm_45_5 wm_45_6 wm_2_23 wm_45_7) hqV_X3_hasLine ⟨Nat.le_of_ble_eq_true rfl, Nat.le_of_ble_eq_true rfl⟩ (wg_9 g _ _) rfl rfl rfl (Nat.le_of_ble_eq_true rfl) dX9_shown_5 rfl (fun r2 X1 h => ?_)
  refine j_if_ne (tgt := 14) (pc' := 11) hκ dX9_shown_8 (by decide) rfl (fun c => ?_) (fun c => ?_)
  · replace h := h.1 c
    refine j_iload_n (pc' := 15) hκ 2 rfl rfl dX9_shown_14 rfl ?_
    by_cases c0 : p2 = 0
    · replace h := h.1 c0
      refine j_tabEq (v := 0) (tgt := 40) hκ dX9_shown_15 c0 (by decide) (by decide) rfl (by decide) ?_
      refine j_aload_n (pc' := 41) hκ 0 rfl rfl dX9_shown_40 rfl ?_
      refine jg_0_8 (pc' := 44) hκ (mi inlX9) (fl_in hκ (mc wm_3_0)) dX9_shown_41 rfl ?_
      refine jg_9_0 (pc' := 47) hκ (mi inlX3) (fl_ne hκ 25 rfl) dX9_shown_44 rfl ?_
      refine j_iload_n (pc' := 48) hκ 1 rfl rfl dX9_shown_47 rfl ?_
      refine jx_iald (pc' := 49) hκ (ah_41 g) h.1 dX9_shown_48 rfl ?_
      replace h := h.2
      exact hR _ _ _ _ dX9_shown_49 h
    replace h := h.2 c0
    by_cases c1 : p2 = 1
    · replace h := h.1 c1
      refine j_tabEq (v := 1) (tgt := 50) hκ dX9_shown_15 c1 (by decide) (by decide) rfl (by decide) ?_
      refine j_aload_n (pc' := 51) hκ 0 rfl rfl dX9_shown_50 rfl ?_
      refine jg_0_8 (pc' := 54) hκ (mi inlX9) (fl_in hκ (mc wm_3_0)) dX9_shown_51 rfl ?_
      refine jg_9_1 (pc' := 57) hκ (mi inlX3) (fl_ne hκ 26 rfl) dX9_shown_54 rfl ?_
      refine j_iload_n (pc' := 58) hκ 1 rfl rfl dX9_shown_57 rfl ?_
      refine jx_iald (pc' := 59) hκ (ah_42 g) h.1 dX9_shown_58 rfl ?_
      replace h := h.2
      exact hR _ _ _ _ dX9_shown_59 h
    replace h := h.2 c1
    by_cases c2 : p2 = 2
    · replace h := h.1 c2
      refine j_tabEq (v := 2) (tgt := 60) hκ dX9_shown_15 c2 (by decide) (by decide) rfl (by decide) ?_
      refine j_aload_n (pc' := 61) hκ 0 rfl rfl dX9_shown_60 rfl ?_
      refine jg_0_8 (pc' := 64) hκ (mi inlX9) (fl_in hκ (mc wm_3_0)) dX9_shown_61 rfl ?_
      refine jg_9_2 (pc' := 67) hκ (mi inlX3) (fl_ne hκ 27 rfl) dX9_shown_64 rfl ?_
      refine j_iload_n (pc' := 68) hκ 1 rfl rfl dX9_shown_67 rfl ?_
      refine jx_iald (pc' := 69) hκ (ah_43 g) h.1 dX9_shown_68 rfl ?_
      replace h := h.2
      exact hR _ _ _ _ dX9_shown_69 h
    replace h := h.2 c2
    have u0 : ¬ (p2).toInt = 0 := fun e => c0 (Int32.toInt_inj.mp (e.trans (by decide)))
    have u1 : ¬ (p2).toInt = 1 := fun e => c1 (Int32.toInt_inj.mp (e.trans (by decide)))
    have u2 : ¬ (p2).toInt = 2 := fun e => c2 (Int32.toInt_inj.mp (e.trans (by decide)))
    refine j_tabOut (tgt := 70) hκ dX9_shown_15 (by omega) (by decide) ?_
    refine j_ldc (pc' := 72) hκ (mc wm_20_5) dX9_shown_70 rfl ?_
    exact hR _ _ _ _ dX9_shown_72 h
  · replace h := h.2 c
    refine j_ldc (pc' := 13) hκ (mc wm_20_5) dX9_shown_11 rfl ?_
    exact hR _ _ _ _ dX9_shown_13 h
theorem c_LR_shown {g : Gx} (hg : Dg g) {X M : ST} {p1 : Int32} {p2 : Int32} {post : Int32 → ST → Prop} (h : wp_LR_shown X p1 p2 post) (l : Launch) : Met l yX9_shown wq_X9_shown rm_LR_shown (va_Pc [.ref (g.2.1 0), .int p1, .int p2] (PU g X M)) (va_Qi post (fun Y t => va_P g.1 vwCl (ww g Y M) t.heap) (wA g)) 0 0 (wA g) :=
  met_xi hg (by decide) rfl [.ref (g.2.1 0), .int p1, .int p2] rfl (Nat.le_of_ble_eq_true rfl) (fun κ hκ hR => lb_LR_shown hκ hR h) l
theorem wm_46_14 : Cond.methodLink RX1 70 yX0_isFree ∈ wAll := inr_46 (List.mem_of_getElem? (i := 14) rfl)
abbrev rm_Judge_canStand : Room := { frames := 5, cells := 0, slots := 0, locals := 113 }
def wp_Judge_canStand (X : ST) (p1 : Int32) (p2 : Int32) (p3 : Int32) (p4 : Int32) (post : Int32 → ST → Prop) : Prop :=
  (p1 = 1 → ((p3 ≤ p2 → (post 0 X)) ∧ (¬ p3 ≤ p2 → (wp_Lamps_isLive X p2 (fun r2 X1 => (r2 = 0 → (post 0 X1)) ∧ (¬ r2 = 0 → (wp_Lamps_isLive X1 p3 (fun r4 X3 => (r4 = 0 → (post 0 X3)) ∧ (¬ r4 = 0 → (wp_Case_isFree X3 p2 p3 (fun r6 X5 => (r6 = 0 → (post 0 X5)) ∧ (¬ r6 = 0 → (post 1 X5))))))))))))) ∧ (¬ p1 = 1 → ((p1 = 2 → (wp_Judge_pricesStand X p4 (fun r8 X7 => bz r8 ∧ post r8 X7))) ∧ (¬ p1 = 2 → ((p1 = 6 → (wp_Lamps_isLive X p2 (fun r10 X9 => (r10 = 0 → (post 0 X9)) ∧ (¬ r10 = 0 → (wp_Lamps_isLive X9 p3 (fun r12 X11 => (r12 = 0 → (post 0 X11)) ∧ (¬ r12 = 0 → (wp_Judge_partedTwins X11 p2 (fun r14 X13 => wp_LR_isIn X13 r14 p3 (fun r16 X15 => (r16 = 0 → (post 0 X15)) ∧ (¬ r16 = 0 → (post 1 X15)))))))))))) ∧ (¬ p1 = 6 → (wp_Lamps_isLive X p2 (fun r18 X17 => (r18 = 0 → (post 0 X17)) ∧ (¬ r18 = 0 → (wp_Judge_standsAlone X17 p1 p2 (fun r20 X19 => (r20 = 0 → (post 0 X19)) ∧ (¬ r20 = 0 → (post 1 X19))))))))))))
set_option maxHeartbeats 4000000 in
set_option maxRecDepth 100000 in
theorem lb_Judge_canStand {κ : Cx} {g : Gx} {M : ST} (hκ : CF κ g RX1 cX1_canStand wq_X1_canStand 5 rm_Judge_canStand) {post : Int32 → ST → Prop} (hR : RtxZ κ g 5 cX1_canStand M post) {X : ST} {p1 : Int32} {p2 : Int32} {p3 : Int32} {p4 : Int32} (h : wp_Judge_canStand X p1 p2 p3 p4 post) : Jw κ g 5 X M [(0, .ref (g.2.1 8)), (1, .int p1), (2, .int p2), (3, .int p3), (4, .int p4)] 0 [] := by
  unfold wp_Judge_canStand at h
  refine j_iload_n (pc' := 1) hκ 1 rfl rfl dX1_canStand_0 rfl ?_
  by_cases c0 : p1 = 1
  · replace h := h.1 c0
    refine j_lkEq (v := 1) (off := 35) (tgt := 36) hκ dX1_canStand_1 rfl c0 (by decide) (by decide) ?_
    refine j_iload_n (pc' := 37) hκ 2 rfl rfl dX1_canStand_36 rfl ?_
    refine j_iload_n (pc' := 38) hκ 3 rfl rfl dX1_canStand_37 rfl ?_
    refine j_icmp_ge (tgt := 79) (pc' := 41) hκ dX1_canStand_38 (by decide) rfl (fun c => ?_) (fun c => ?_)
    · replace h := h.1 c
      refine j_iconst (pc' := 80) (v := 0) hκ (by decide) dX1_canStand_79 rfl ?_
      exact hR _ _ _ _ dX1_canStand_80 (Or.inl rfl) h
    · replace h := h.2 c
      refine j_aload_n (pc' := 42) hκ 0 rfl rfl dX1_canStand_41 rfl ?_
      refine jg_8_0 (pc' := 45) hκ (mi inlX1) (fl_in hκ (mc wm_6_20)) dX1_canStand_42 rfl ?_
      refine j_iload_n (pc' := 46) hκ 2 rfl rfl dX1_canStand_45 rfl ?_
      refine jx_callVi (pc' := 49) hκ (c_Lamps_isLive (dg hκ) h) rfl rfl rfl (gV wm_39_17 wm_17_23 wm_18_0 wm_1_23 wm_18_1) hqV_X2_isLive ⟨Nat.le_of_ble_eq_true rfl, Nat.le_of_ble_eq_true rfl⟩ (wg_3 g _ _) rfl rfl rfl (Nat.le_of_ble_eq_true rfl) dX1_canStand_46 rfl (fun r2 X1 h => ?_)
      refine j_if_eq (tgt := 79) (pc' := 52) hκ dX1_canStand_49 (by decide) rfl (fun c => ?_) (fun c => ?_)
      · replace h := h.1 c
        refine j_iconst (pc' := 80) (v := 0) hκ (by decide) dX1_canStand_79 rfl ?_
        exact hR _ _ _ _ dX1_canStand_80 (Or.inl rfl) h
      · replace h := h.2 c
        refine j_aload_n (pc' := 53) hκ 0 rfl rfl dX1_canStand_52 rfl ?_
        refine jg_8_0 (pc' := 56) hκ (mi inlX1) (fl_in hκ (mc wm_6_20)) dX1_canStand_53 rfl ?_
        refine j_iload_n (pc' := 57) hκ 3 rfl rfl dX1_canStand_56 rfl ?_
        refine jx_callVi (pc' := 60) hκ (c_Lamps_isLive (dg hκ) h) rfl rfl rfl (gV wm_39_17 wm_17_23 wm_18_0 wm_1_23 wm_18_1) hqV_X2_isLive ⟨Nat.le_of_ble_eq_true rfl, Nat.le_of_ble_eq_true rfl⟩ (wg_3 g _ _) rfl rfl rfl (Nat.le_of_ble_eq_true rfl) dX1_canStand_57 rfl (fun r4 X3 h => ?_)
        refine j_if_eq (tgt := 79) (pc' := 63) hκ dX1_canStand_60 (by decide) rfl (fun c => ?_) (fun c => ?_)
        · replace h := h.1 c
          refine j_iconst (pc' := 80) (v := 0) hκ (by decide) dX1_canStand_79 rfl ?_
          exact hR _ _ _ _ dX1_canStand_80 (Or.inl rfl) h
        · replace h := h.2 c
          refine j_aload_n (pc' := 64) hκ 0 rfl rfl dX1_canStand_63 rfl ?_
          refine jg_8_1 (pc' := 67) hκ (mi inlX1) (fl_in hκ (mc wm_6_21)) dX1_canStand_64 rfl ?_
          refine j_iload_n (pc' := 68) hκ 2 rfl rfl dX1_canStand_67 rfl ?_
          refine j_iload_n (pc' := 69) hκ 3 rfl rfl dX1_canStand_68 rfl ?_
          refine jx_callVi (pc' := 72) hκ (c_Case_isFree (dg hκ) h) rfl rfl rfl (gV wm_46_14 wm_40_19 wm_40_20 wm_2_11 wm_40_21) hqV_X0_isFree ⟨Nat.le_of_ble_eq_true rfl, Nat.le_of_ble_eq_true rfl⟩ (wg_6 g _ _) rfl rfl rfl (Nat.le_of_ble_eq_true rfl) dX1_canStand_69 rfl (fun r6 X5 h => ?_)
          refine j_if_eq (tgt := 79) (pc' := 75) hκ dX1_canStand_72 (by decide) rfl (fun c => ?_) (fun c => ?_)
          · replace h := h.1 c
            refine j_iconst (pc' := 80) (v := 0) hκ (by decide) dX1_canStand_79 rfl ?_
            exact hR _ _ _ _ dX1_canStand_80 (Or.inl rfl) h
          · replace h := h.2 c
            refine j_iconst (pc' := 76) (v := 1) hκ (by decide) dX1_canStand_75 rfl ?_
            refine j_goto (pc' := 80) hκ (by decide) dX1_canStand_76 ?_
            exact hR _ _ _ _ dX1_canStand_80 (Or.inr rfl) h
  replace h := h.2 c0
  by_cases c1 : p1 = 2
  · replace h := h.1 c1
    refine j_lkEq (v := 2) (off := 80) (tgt := 81) hκ dX1_canStand_1 rfl c1 (by decide) (by decide) ?_
    refine j_aload_n (pc' := 82) hκ 0 rfl rfl dX1_canStand_81 rfl ?_
    refine j_iload (pc' := 84) hκ 4 rfl dX1_canStand_82 rfl ?_
    refine jx_callVi (pc' := 87) hκ (c_Judge_pricesStand (dg hκ) h) rfl rfl rfl (gV wm_40_8 wm_40_9 wm_40_10 wm_2_19 wm_40_11) hqV_X1_pricesStand ⟨Nat.le_of_ble_eq_true rfl, Nat.le_of_ble_eq_true rfl⟩ (wg_8 g _ _) rfl rfl rfl (Nat.le_of_ble_eq_true rfl) dX1_canStand_84 rfl (fun r8 X7 h => ?_)
    exact hR _ _ _ _ dX1_canStand_87 h.1 h.2
  replace h := h.2 c1
  by_cases c2 : p1 = 6
  · replace h := h.1 c2
    refine j_lkEq (v := 6) (off := 87) (tgt := 88) hκ dX1_canStand_1 rfl c2 (by decide) (by decide) ?_
    refine j_aload_n (pc' := 89) hκ 0 rfl rfl dX1_canStand_88 rfl ?_
    refine jg_8_0 (pc' := 92) hκ (mi inlX1) (fl_in hκ (mc wm_6_20)) dX1_canStand_89 rfl ?_
    refine j_iload_n (pc' := 93) hκ 2 rfl rfl dX1_canStand_92 rfl ?_
    refine jx_callVi (pc' := 96) hκ (c_Lamps_isLive (dg hκ) h) rfl rfl rfl (gV wm_39_17 wm_17_23 wm_18_0 wm_1_23 wm_18_1) hqV_X2_isLive ⟨Nat.le_of_ble_eq_true rfl, Nat.le_of_ble_eq_true rfl⟩ (wg_3 g _ _) rfl rfl rfl (Nat.le_of_ble_eq_true rfl) dX1_canStand_93 rfl (fun r10 X9 h => ?_)
    refine j_if_eq (tgt := 126) (pc' := 99) hκ dX1_canStand_96 (by decide) rfl (fun c => ?_) (fun c => ?_)
    · replace h := h.1 c
      refine j_iconst (pc' := 127) (v := 0) hκ (by decide) dX1_canStand_126 rfl ?_
      exact hR _ _ _ _ dX1_canStand_127 (Or.inl rfl) h
    · replace h := h.2 c
      refine j_aload_n (pc' := 100) hκ 0 rfl rfl dX1_canStand_99 rfl ?_
      refine jg_8_0 (pc' := 103) hκ (mi inlX1) (fl_in hκ (mc wm_6_20)) dX1_canStand_100 rfl ?_
      refine j_iload_n (pc' := 104) hκ 3 rfl rfl dX1_canStand_103 rfl ?_
      refine jx_callVi (pc' := 107) hκ (c_Lamps_isLive (dg hκ) h) rfl rfl rfl (gV wm_39_17 wm_17_23 wm_18_0 wm_1_23 wm_18_1) hqV_X2_isLive ⟨Nat.le_of_ble_eq_true rfl, Nat.le_of_ble_eq_true rfl⟩ (wg_3 g _ _) rfl rfl rfl (Nat.le_of_ble_eq_true rfl) dX1_canStand_104 rfl (fun r12 X11 h => ?_)
      refine j_if_eq (tgt := 126) (pc' := 110) hκ dX1_canStand_107 (by decide) rfl (fun c => ?_) (fun c => ?_)
      · replace h := h.1 c
        refine j_iconst (pc' := 127) (v := 0) hκ (by decide) dX1_canStand_126 rfl ?_
        exact hR _ _ _ _ dX1_canStand_127 (Or.inl rfl) h
      · replace h := h.2 c
        refine j_aload_n (pc' := 111) hκ 0 rfl rfl dX1_canStand_110 rfl ?_
        refine j_iload_n (pc' := 112) hκ 2 rfl rfl dX1_canStand_111 rfl ?_
        refine jx_callVi (pc' := 115) hκ (c_Judge_partedTwins (dg hκ) h) rfl rfl rfl (gV wm_39_1 wm_39_2 wm_39_3 wm_2_19 wm_39_4) hqV_X1_partedTwins ⟨Nat.le_of_ble_eq_true rfl, Nat.le_of_ble_eq_true rfl⟩ (wg_8 g _ _) rfl rfl rfl (Nat.le_of_ble_eq_true rfl) dX1_canStand_112 rfl (fun r14 X13 h => ?_)
        refine j_iload_n (pc' := 116) hκ 3 rfl rfl dX1_canStand_115 rfl ?_
        refine jx_callNi (pc' := 119) hκ (c_LR_isIn (dg hκ) h) rfl rfl rfl (gN wm_18_4) 7 rfl (mc wm_1_2) (mc wm_18_3) hqS_X9_isIn ⟨Nat.le_of_ble_eq_true rfl, Nat.le_of_ble_eq_true rfl⟩ rfl rfl (Nat.le_of_ble_eq_true rfl) dX1_canStand_116 rfl (fun r16 X15 h => ?_)
        refine j_if_eq (tgt := 126) (pc' := 122) hκ dX1_canStand_119 (by decide) rfl (fun c => ?_) (fun c => ?_)
        · replace h := h.1 c
          refine j_iconst (pc' := 127) (v := 0) hκ (by decide) dX1_canStand_126 rfl ?_
          exact hR _ _ _ _ dX1_canStand_127 (Or.inl rfl) h
        · replace h := h.2 c
          refine j_iconst (pc' := 123) (v := 1) hκ (by decide) dX1_canStand_122 rfl ?_
          refine j_goto (pc' := 127) hκ (by decide) dX1_canStand_123 ?_
          exact hR _ _ _ _ dX1_canStand_127 (Or.inr rfl) h
  replace h := h.2 c2
  refine j_lk (off := 127) (tgt := 128) hκ dX1_canStand_1 rfl ((lv_osw c0 (by decide)).trans ((lv_osw c1 (by decide)).trans ((lv_osw c2 (by decide)).trans (rfl)))) (by decide) ?_
  refine j_aload_n (pc' := 129) hκ 0 rfl rfl dX1_canStand_128 rfl ?_
  refine jg_8_0 (pc' := 132) hκ (mi inlX1) (fl_in hκ (mc wm_6_20)) dX1_canStand_129 rfl ?_
  refine j_iload_n (pc' := 133) hκ 2 rfl rfl dX1_canStand_132 rfl ?_
  refine jx_callVi (pc' := 136) hκ (c_Lamps_isLive (dg hκ) h) rfl rfl rfl (gV wm_39_17 wm_17_23 wm_18_0 wm_1_23 wm_18_1) hqV_X2_isLive ⟨Nat.le_of_ble_eq_true rfl, Nat.le_of_ble_eq_true rfl⟩ (wg_3 g _ _) rfl rfl rfl (Nat.le_of_ble_eq_true rfl) dX1_canStand_133 rfl (fun r18 X17 h => ?_)
  refine j_if_eq (tgt := 152) (pc' := 139) hκ dX1_canStand_136 (by decide) rfl (fun c => ?_) (fun c => ?_)
  · replace h := h.1 c
    refine j_iconst (pc' := 153) (v := 0) hκ (by decide) dX1_canStand_152 rfl ?_
    exact hR _ _ _ _ dX1_canStand_153 (Or.inl rfl) h
  · replace h := h.2 c
    refine j_aload_n (pc' := 140) hκ 0 rfl rfl dX1_canStand_139 rfl ?_
    refine j_iload_n (pc' := 141) hκ 1 rfl rfl dX1_canStand_140 rfl ?_
    refine j_iload_n (pc' := 142) hκ 2 rfl rfl dX1_canStand_141 rfl ?_
    refine jx_callVi (pc' := 145) hκ (c_Judge_standsAlone (dg hκ) h) rfl rfl rfl (gV wm_39_18 wm_39_19 wm_39_20 wm_2_19 wm_39_21) hqV_X1_standsAlone ⟨Nat.le_of_ble_eq_true rfl, Nat.le_of_ble_eq_true rfl⟩ (wg_8 g _ _) rfl rfl rfl (Nat.le_of_ble_eq_true rfl) dX1_canStand_142 rfl (fun r20 X19 h => ?_)
    refine j_if_eq (tgt := 152) (pc' := 148) hκ dX1_canStand_145 (by decide) rfl (fun c => ?_) (fun c => ?_)
    · replace h := h.1 c
      refine j_iconst (pc' := 153) (v := 0) hκ (by decide) dX1_canStand_152 rfl ?_
      exact hR _ _ _ _ dX1_canStand_153 (Or.inl rfl) h
    · replace h := h.2 c
      refine j_iconst (pc' := 149) (v := 1) hκ (by decide) dX1_canStand_148 rfl ?_
      refine j_goto (pc' := 153) hκ (by decide) dX1_canStand_149 ?_
      exact hR _ _ _ _ dX1_canStand_153 (Or.inr rfl) h
theorem c_Judge_canStand {g : Gx} (hg : Dg g) {X M : ST} {p1 : Int32} {p2 : Int32} {p3 : Int32} {p4 : Int32} {post : Int32 → ST → Prop} (h : wp_Judge_canStand X p1 p2 p3 p4 post) (l : Launch) : Met l yX1_canStand wq_X1_canStand rm_Judge_canStand (va_Pc [.ref (g.2.1 8), .int p1, .int p2, .int p3, .int p4] (PU g X M)) (va_Qi post (fun Y t => va_P g.1 vwCl (ww g Y M) t.heap) (wA g)) 0 0 (wA g) :=
  met_xz hg (by decide) rfl [.ref (g.2.1 8), .int p1, .int p2, .int p3, .int p4] rfl (Nat.le_of_ble_eq_true rfl) (fun κ hκ hR => lb_Judge_canStand hκ hR h) l
theorem wm_46_10 : Cond.methodLink RX1 45 yX1_canStand ∈ wAll := inr_46 (List.mem_of_getElem? (i := 10) rfl)
theorem wm_46_11 : Cond.instanceMethod yX1_canStand ∈ wAll := inr_46 (List.mem_of_getElem? (i := 11) rfl)
theorem wm_46_12 : Cond.selects RX1 yX1_canStand yX1_canStand ∈ wAll := inr_46 (List.mem_of_getElem? (i := 12) rfl)
theorem wm_46_13 : Cond.code yX1_canStand cX1_canStand 5 (some .boolean) ∈ wAll := inr_46 (List.mem_of_getElem? (i := 13) rfl)
theorem hqV_X1_canStand : yX1_canStand.cls = RX1 ∧ yX1_canStand.cls ≠ "java/lang/invoke/MethodHandle" ∧ yX1_canStand.cls ≠ "java/lang/invoke/VarHandle" ∧ (parseMethodDescriptor yX1_canStand.desc).map (fun d => d.parameters.length) = some 4 := by decide +kernel
abbrev rm_Judge_follow_proof : Room := { frames := 3, cells := 0, slots := 0, locals := 66 }
def wp_Judge_follow_proof (X : ST) (p2 : Int32) (post : ST → Prop) : Prop :=
  vp_in p2 400 ∧ ((¬ (x_proof_ops X p2.toNatClampNeg) = 1 → (wp_Case_goOn X (fun X1 => post X1))) ∧ ((x_proof_ops X p2.toNatClampNeg) = 1 → (vp_in p2 400 ∧ (vp_in p2 400 ∧ (wp_Case_splitBy X (x_proof_as X p2.toNatClampNeg) (x_proof_bs X p2.toNatClampNeg) (fun X3 => post X3))))))
set_option maxHeartbeats 4000000 in
set_option maxRecDepth 100000 in
theorem lb_Judge_follow_proof {κ : Cx} {g : Gx} {M : ST} (hκ : CF κ g RX1 cX1_follow wq_X1_follow 3 rm_Judge_follow_proof) {post : ST → Prop} (hR : RtxV κ g 3 cX1_follow M post) {X : ST} {p2 : Int32} (h : wp_Judge_follow_proof X p2 post) : Jw κ g 3 X M [(0, .ref (g.2.1 8)), (1, .ref (g.2.1 9)), (2, .int p2)] 0 [] := by
  unfold wp_Judge_follow_proof at h
  refine j_aload_n (pc' := 1) hκ 1 rfl rfl dX1_follow_0 rfl ?_
  refine jg_9_0 (pc' := 4) hκ (mi inlX3) (fl_ne hκ 31 rfl) dX1_follow_1 rfl ?_
  refine j_iload_n (pc' := 5) hκ 2 rfl rfl dX1_follow_4 rfl ?_
  refine jx_iald (pc' := 6) hκ (ah_41 g) h.1 dX1_follow_5 rfl ?_
  replace h := h.2
  refine j_iconst (pc' := 7) (v := 1) hκ (by decide) dX1_follow_6 rfl ?_
  refine j_icmp_ne (tgt := 32) (pc' := 10) hκ dX1_follow_7 (by decide) rfl (fun c => ?_) (fun c => ?_)
  · replace h := h.1 c
    refine j_aload_n (pc' := 33) hκ 0 rfl rfl dX1_follow_32 rfl ?_
    refine jg_8_1 (pc' := 36) hκ (mi inlX1) (fl_in hκ (mc wm_6_21)) dX1_follow_33 rfl ?_
    refine jx_callVv (pc' := 39) hκ (c_Case_goOn (dg hκ) h) rfl rfl rfl (gV wm_41_10 wm_41_11 wm_41_12 wm_2_11 wm_41_13) hqV_X0_goOn ⟨Nat.le_of_ble_eq_true rfl, Nat.le_of_ble_eq_true rfl⟩ (wg_6 g _ _) rfl rfl rfl (Nat.le_of_ble_eq_true rfl) dX1_follow_36 rfl (fun X1 h => ?_)
    exact hR _ _ _ dX1_follow_39 h
  · replace h := h.2 c
    refine j_aload_n (pc' := 11) hκ 0 rfl rfl dX1_follow_10 rfl ?_
    refine jg_8_1 (pc' := 14) hκ (mi inlX1) (fl_in hκ (mc wm_6_21)) dX1_follow_11 rfl ?_
    refine j_aload_n (pc' := 15) hκ 1 rfl rfl dX1_follow_14 rfl ?_
    refine jg_9_1 (pc' := 18) hκ (mi inlX3) (fl_ne hκ 32 rfl) dX1_follow_15 rfl ?_
    refine j_iload_n (pc' := 19) hκ 2 rfl rfl dX1_follow_18 rfl ?_
    refine jx_iald (pc' := 20) hκ (ah_42 g) h.1 dX1_follow_19 rfl ?_
    replace h := h.2
    refine j_aload_n (pc' := 21) hκ 1 rfl rfl dX1_follow_20 rfl ?_
    refine jg_9_2 (pc' := 24) hκ (mi inlX3) (fl_ne hκ 33 rfl) dX1_follow_21 rfl ?_
    refine j_iload_n (pc' := 25) hκ 2 rfl rfl dX1_follow_24 rfl ?_
    refine jx_iald (pc' := 26) hκ (ah_43 g) h.1 dX1_follow_25 rfl ?_
    replace h := h.2
    refine jx_callVv (pc' := 29) hκ (c_Case_splitBy (dg hκ) h) rfl rfl rfl (gV wm_41_2 wm_41_3 wm_41_4 wm_2_11 wm_41_5) hqV_X0_splitBy ⟨Nat.le_of_ble_eq_true rfl, Nat.le_of_ble_eq_true rfl⟩ (wg_6 g _ _) rfl rfl rfl (Nat.le_of_ble_eq_true rfl) dX1_follow_26 rfl (fun X3 h => ?_)
    refine j_goto (pc' := 39) hκ (by decide) dX1_follow_29 ?_
    exact hR _ _ _ dX1_follow_39 h
theorem c_Judge_follow_proof {g : Gx} (hg : Dg g) {X M : ST} {p2 : Int32} {post : ST → Prop} (h : wp_Judge_follow_proof X p2 post) (l : Launch) : Met l yX1_follow wq_X1_follow rm_Judge_follow_proof (va_Pc [.ref (g.2.1 8), .ref (g.2.1 9), .int p2] (PU g X M)) (va_Qv post (fun Y t => va_P g.1 vwCl (ww g Y M) t.heap) (wA g)) 0 0 (wA g) :=
  met_xv hg (by decide) rfl [.ref (g.2.1 8), .ref (g.2.1 9), .int p2] rfl (Nat.le_of_ble_eq_true rfl) (fun κ hκ hR => lb_Judge_follow_proof hκ hR h) l
abbrev rm_Judge_wrongLine_proof : Room := { frames := 6, cells := 0, slots := 0, locals := 137 }
def wp_Judge_wrongLine_proof_2_s (K46 : ST → Int32 → Prop) (K60 : ST → Prop) (post : Int32 → ST → Prop) (rec : ST → Int32 → Int32 → Prop) (X : ST) (l2 : Int32) (l3 : Int32) : Prop :=
  ((x_proof_count X) ≤ l3 → (K60 X)) ∧ (¬ (x_proof_count X) ≤ l3 → ((¬ (x_Case_isOver X) = 0 → (K46 X l3)) ∧ ((x_Case_isOver X) = 0 → (vp_in l3 400 ∧ (vp_in l3 400 ∧ (vp_in l3 400 ∧ (wp_Judge_canStand X (x_proof_ops X l3.toNatClampNeg) (x_proof_as X l3.toNatClampNeg) (x_proof_bs X l3.toNatClampNeg) l2 (fun r2 X1 => (¬ r2 = 0 → (wp_Judge_follow_proof X1 l3 (fun X3 => rec X3 l2 (l3 + 1)))) ∧ (r2 = 0 → (K46 X1 l3))))))))))
def wp_Judge_wrongLine_proof_2 (K46 : ST → Int32 → Prop) (K60 : ST → Prop) (post : Int32 → ST → Prop) : Nat → ST → Int32 → Int32 → Prop
  | 0 => fun _ _ _ => False
  | n + 1 => wp_Judge_wrongLine_proof_2_s K46 K60 post (wp_Judge_wrongLine_proof_2 K46 K60 post n)
set_option maxHeartbeats 4000000 in
set_option maxRecDepth 100000 in
theorem lb_Judge_wrongLine_proof_2 {κ : Cx} {g : Gx} {M : ST} (hκ : CF κ g RX1 cX1_wrongLine wq_X1_wrongLine 4 rm_Judge_wrongLine_proof) {post : Int32 → ST → Prop} (hR : RtxI κ g 4 cX1_wrongLine M post) {K46 : ST → Int32 → Prop} {K60 : ST → Prop} (hK46 : ∀ (X : ST) (l3 : Int32), K46 X l3 → Jw κ g 4 X M [(3, .int l3)] 46 []) (hK60 : ∀ (X : ST), K60 X → Jw κ g 4 X M [(0, .ref (g.2.1 8)), (1, .ref (g.2.1 9))] 60 []) : ∀ (n : Nat) (X : ST) (l2 : Int32) (l3 : Int32), wp_Judge_wrongLine_proof_2 K46 K60 post n X l2 l3 → Jw κ g 4 X M [(0, .ref (g.2.1 8)), (1, .ref (g.2.1 9)), (2, .int l2), (3, .int l3)] 2 [] := by
  intro n
  induction n with
  | zero =>
    intro X l2 l3  h
    exact h.elim
  | succ n ih =>
    intro X l2 l3  h
    have h : wp_Judge_wrongLine_proof_2_s K46 K60 post (wp_Judge_wrongLine_proof_2 K46 K60 post n) X l2 l3 := h
    unfold wp_Judge_wrongLine_proof_2_s at h
    refine j_iload_n (pc' := 3) hκ 3 rfl rfl dX1_wrongLine_2 rfl ?_
    refine j_aload_n (pc' := 4) hκ 1 rfl rfl dX1_wrongLine_3 rfl ?_
    refine jg_9_3 (pc' := 7) hκ (mi inlX3) (fl_ne hκ 29 rfl) dX1_wrongLine_4 rfl ?_
    refine j_icmp_ge (tgt := 60) (pc' := 10) hκ dX1_wrongLine_7 (by decide) rfl (fun c => ?_) (fun c => ?_)
    · replace h := h.1 c
      refine j_sub [0, 1] rfl ?_
      exact hK60 _  h
    · replace h := h.2 c
      refine j_aload_n (pc' := 11) hκ 0 rfl rfl dX1_wrongLine_10 rfl ?_
      refine jg_8_1 (pc' := 14) hκ (mi inlX1) (fl_in hκ (mc wm_6_21)) dX1_wrongLine_11 rfl ?_
      refine jg_6_5 (pc' := 17) hκ (mi inlX0) (fl_ne hκ 30 rfl) dX1_wrongLine_14 rfl ?_
      refine j_if_ne (tgt := 46) (pc' := 20) hκ dX1_wrongLine_17 (by decide) rfl (fun c => ?_) (fun c => ?_)
      · replace h := h.1 c
        refine j_sub [3] rfl ?_
        exact hK46 _ _  h
      · replace h := h.2 c
        refine j_aload_n (pc' := 21) hκ 0 rfl rfl dX1_wrongLine_20 rfl ?_
        refine j_aload_n (pc' := 22) hκ 1 rfl rfl dX1_wrongLine_21 rfl ?_
        refine jg_9_0 (pc' := 25) hκ (mi inlX3) (fl_ne hκ 31 rfl) dX1_wrongLine_22 rfl ?_
        refine j_iload_n (pc' := 26) hκ 3 rfl rfl dX1_wrongLine_25 rfl ?_
        refine jx_iald (pc' := 27) hκ (ah_41 g) h.1 dX1_wrongLine_26 rfl ?_
        replace h := h.2
        refine j_aload_n (pc' := 28) hκ 1 rfl rfl dX1_wrongLine_27 rfl ?_
        refine jg_9_1 (pc' := 31) hκ (mi inlX3) (fl_ne hκ 32 rfl) dX1_wrongLine_28 rfl ?_
        refine j_iload_n (pc' := 32) hκ 3 rfl rfl dX1_wrongLine_31 rfl ?_
        refine jx_iald (pc' := 33) hκ (ah_42 g) h.1 dX1_wrongLine_32 rfl ?_
        replace h := h.2
        refine j_aload_n (pc' := 34) hκ 1 rfl rfl dX1_wrongLine_33 rfl ?_
        refine jg_9_2 (pc' := 37) hκ (mi inlX3) (fl_ne hκ 33 rfl) dX1_wrongLine_34 rfl ?_
        refine j_iload_n (pc' := 38) hκ 3 rfl rfl dX1_wrongLine_37 rfl ?_
        refine jx_iald (pc' := 39) hκ (ah_43 g) h.1 dX1_wrongLine_38 rfl ?_
        replace h := h.2
        refine j_iload_n (pc' := 40) hκ 2 rfl rfl dX1_wrongLine_39 rfl ?_
        refine jx_callVi (pc' := 43) hκ (c_Judge_canStand (dg hκ) h) rfl rfl rfl (gV wm_46_10 wm_46_11 wm_46_12 wm_2_19 wm_46_13) hqV_X1_canStand ⟨Nat.le_of_ble_eq_true rfl, Nat.le_of_ble_eq_true rfl⟩ (wg_8 g _ _) rfl rfl rfl (Nat.le_of_ble_eq_true rfl) dX1_wrongLine_40 rfl (fun r2 X1 h => ?_)
        refine j_if_ne (tgt := 48) (pc' := 46) hκ dX1_wrongLine_43 (by decide) rfl (fun c => ?_) (fun c => ?_)
        · replace h := h.1 c
          refine j_aload_n (pc' := 49) hκ 0 rfl rfl dX1_wrongLine_48 rfl ?_
          refine j_aload_n (pc' := 50) hκ 1 rfl rfl dX1_wrongLine_49 rfl ?_
          refine j_iload_n (pc' := 51) hκ 3 rfl rfl dX1_wrongLine_50 rfl ?_
          refine jx_callVv (pc' := 54) hκ (c_Judge_follow_proof (dg hκ) h) rfl rfl rfl (gV wm_40_22 wm_40_23 wm_41_0 wm_2_19 wm_41_1) hqV_X1_follow ⟨Nat.le_of_ble_eq_true rfl, Nat.le_of_ble_eq_true rfl⟩ (wg_8 g _ _) rfl rfl rfl (Nat.le_of_ble_eq_true rfl) dX1_wrongLine_51 rfl (fun X3 h => ?_)
          refine j_iinc (pc' := 57) (v := l3 + 1) (lv' := [(3, .int (l3 + 1)), (0, .ref (g.2.1 8)), (1, .ref (g.2.1 9)), (2, .int l2)]) hκ 3 rfl rfl (Nat.le_of_ble_eq_true rfl) rfl dX1_wrongLine_54 rfl ?_
          refine j_goto (pc' := 2) hκ (by decide) dX1_wrongLine_57 ?_
          refine j_sub [1, 2, 3, 0] rfl ?_
          exact ih _ _ _  h
        · replace h := h.2 c
          refine j_sub [3] rfl ?_
          exact hK46 _ _  h
def wp_Judge_wrongLine_proof (X : ST) (p2 : Int32) (post : Int32 → ST → Prop) : Prop :=
  ∃ n, wp_Judge_wrongLine_proof_2 (fun X5 v6 => post v6 X5) (fun X7 => ((x_Case_isOver X7) = 0 → (post (x_proof_count X7) X7)) ∧ (¬ (x_Case_isOver X7) = 0 → (post (-1) X7))) post n X p2 0
set_option maxHeartbeats 4000000 in
set_option maxRecDepth 100000 in
theorem lb_Judge_wrongLine_proof {κ : Cx} {g : Gx} {M : ST} (hκ : CF κ g RX1 cX1_wrongLine wq_X1_wrongLine 4 rm_Judge_wrongLine_proof) {post : Int32 → ST → Prop} (hR : RtxI κ g 4 cX1_wrongLine M post) {X : ST} {p2 : Int32} (h : wp_Judge_wrongLine_proof X p2 post) : Jw κ g 4 X M [(0, .ref (g.2.1 8)), (1, .ref (g.2.1 9)), (2, .int p2)] 0 [] := by
  unfold wp_Judge_wrongLine_proof at h
  refine j_iconst (pc' := 1) (v := 0) hκ (by decide) dX1_wrongLine_0 rfl ?_
  refine j_istore_n (pc' := 2) (lv' := [(3, .int 0), (0, .ref (g.2.1 8)), (1, .ref (g.2.1 9)), (2, .int p2)]) hκ (Nat.le_of_ble_eq_true rfl) rfl rfl dX1_wrongLine_1 rfl ?_
  obtain ⟨n, h⟩ := h
  refine j_sub [1, 2, 3, 0] rfl ?_
  refine lb_Judge_wrongLine_proof_2 hκ hR ?_ ?_ n _ _ _  h
  · intro X5 v6  h
    refine j_iload_n (pc' := 47) hκ 0 rfl rfl dX1_wrongLine_46 rfl ?_
    exact hR _ _ _ _ dX1_wrongLine_47 h
  · intro X7  h
    refine j_aload_n (pc' := 61) hκ 0 rfl rfl dX1_wrongLine_60 rfl ?_
    refine jg_8_1 (pc' := 64) hκ (mi inlX1) (fl_in hκ (mc wm_6_21)) dX1_wrongLine_61 rfl ?_
    refine jg_6_5 (pc' := 67) hκ (mi inlX0) (fl_ne hκ 30 rfl) dX1_wrongLine_64 rfl ?_
    refine j_if_eq (tgt := 74) (pc' := 70) hκ dX1_wrongLine_67 (by decide) rfl (fun c => ?_) (fun c => ?_)
    · replace h := h.1 c
      refine j_aload_n (pc' := 75) hκ 1 rfl rfl dX1_wrongLine_74 rfl ?_
      refine jg_9_3 (pc' := 78) hκ (mi inlX3) (fl_ne hκ 29 rfl) dX1_wrongLine_75 rfl ?_
      exact hR _ _ _ _ dX1_wrongLine_78 h
    · replace h := h.2 c
      refine j_iconst (pc' := 71) (v := (-1)) hκ (by decide) dX1_wrongLine_70 rfl ?_
      refine j_goto (pc' := 78) hκ (by decide) dX1_wrongLine_71 ?_
      exact hR _ _ _ _ dX1_wrongLine_78 h
theorem c_Judge_wrongLine_proof {g : Gx} (hg : Dg g) {X M : ST} {p2 : Int32} {post : Int32 → ST → Prop} (h : wp_Judge_wrongLine_proof X p2 post) (l : Launch) : Met l yX1_wrongLine wq_X1_wrongLine rm_Judge_wrongLine_proof (va_Pc [.ref (g.2.1 8), .ref (g.2.1 9), .int p2] (PU g X M)) (va_Qi post (fun Y t => va_P g.1 vwCl (ww g Y M) t.heap) (wA g)) 0 0 (wA g) :=
  met_xi hg (by decide) rfl [.ref (g.2.1 8), .ref (g.2.1 9), .int p2] rfl (Nat.le_of_ble_eq_true rfl) (fun κ hκ hR => lb_Judge_wrongLine_proof hκ hR h) l
