theorem hqV_X8_takeOthers : yX8_takeOthers.cls = RX8 ∧ yX8_takeOthers.cls ≠ "java/lang/invoke/MethodHandle" ∧ yX8_takeOthers.cls ≠ "java/lang/invoke/VarHandle" ∧ (parseMethodDescriptor yX8_takeOthers.desc).map (fun d => d.parameters.length) = some 2 := by decide +kernel
theorem wd_X8_takeOfFirst_f22 : Cond.fieldLink RX8 22 "LampRound$Tree" "pairs" "I" ∈ wsX8_takeOfFirst := List.mem_of_getElem? (i := 1) rfl
theorem iw_X8_takeOfFirst_X8 : ∀ w ∈ wsX80, w ∈ wsX8_takeOfFirst := fun _ h => List.mem_cons_of_mem _ (List.mem_append_left _ (List.mem_append_right _ h))
theorem wd_X8_takeOfFirst_f29 : Cond.fieldLink RX8 29 "LampRound$Tree" "takenOfFirst" "I" ∈ wsX8_takeOfFirst := List.mem_of_getElem? (i := 2) rfl
theorem wd_X8_takeOfFirst_iX9 : Cond.initialized RX9 ∈ wsX8_takeOfFirst := List.mem_of_getElem? (i := 11) rfl
theorem wd_X8_takeOfFirst_s_X9_lesserOf : Cond.static yX9_lesserOf ∈ wsX8_takeOfFirst := List.mem_of_getElem? (i := 10) rfl
abbrev rm_Tree_takeOfFirst : Room := { frames := 3, cells := 0, slots := 0, locals := 67 }
def wp_Tree_takeOfFirst_2_s (K60 : ST → Prop) (post : ST → Prop) (rec : ST → Int32 → Int32 → Int32 → Prop) (X : ST) (l1 : Int32) (l2 : Int32) (l3 : Int32) : Prop :=
  ((x_Tree_pairs X) ≤ l3 → (K60 X)) ∧ (¬ (x_Tree_pairs X) ≤ l3 → ((2 ≤ (x_Tree_takenOfFirst X) → (K60 X)) ∧ (¬ 2 ≤ (x_Tree_takenOfFirst X) → (wp_Tree_pairAt X l3 (fun r2 X1 => wp_LR_lesserOf X1 r2 (fun r4 X3 => (¬ r4 = l1 → (rec X3 l1 l2 (l3 + 1))) ∧ (r4 = l1 → (wp_Tree_mayTake X3 l3 l2 (fun r6 X5 => (r6 = 0 → (rec X5 l1 l2 (l3 + 1))) ∧ (¬ r6 = 0 → (wp_Tree_take X5 l3 (fun X7 => ∀ X9 : ST, X9 = xs_Tree_takenOfFirst X7 ((x_Tree_takenOfFirst X7) + 1) → rec X9 l1 l2 (l3 + 1)))))))))))))
def wp_Tree_takeOfFirst_2 (K60 : ST → Prop) (post : ST → Prop) : Nat → ST → Int32 → Int32 → Int32 → Prop
  | 0 => fun _ _ _ _ => False
  | n + 1 => wp_Tree_takeOfFirst_2_s K60 post (wp_Tree_takeOfFirst_2 K60 post n)
set_option maxHeartbeats 4000000 in
set_option maxRecDepth 100000 in
theorem lb_Tree_takeOfFirst_2 {κ : Cx} {g : Gx} {M : ST} (hκ : CF κ g RX8 cX8_takeOfFirst wsX8_takeOfFirst 4 rm_Tree_takeOfFirst) {post : ST → Prop} (hR : RtxV κ g 4 cX8_takeOfFirst M post) {K60 : ST → Prop} (hK60 : ∀ (X : ST), K60 X → Jw κ g 4 X M [] 60 []) : ∀ (n : Nat) (X : ST) (l1 : Int32) (l2 : Int32) (l3 : Int32), wp_Tree_takeOfFirst_2 K60 post n X l1 l2 l3 → Jw κ g 4 X M [(0, .ref (g.2.1 7)), (1, .int l1), (2, .int l2), (3, .int l3)] 2 [] := by
  intro n
  induction n with
  | zero =>
    intro X l1 l2 l3  h
    exact h.elim
  | succ n ih =>
    intro X l1 l2 l3  h
    have h : wp_Tree_takeOfFirst_2_s K60 post (wp_Tree_takeOfFirst_2 K60 post n) X l1 l2 l3 := h
    unfold wp_Tree_takeOfFirst_2_s at h
    refine j_iload_n (pc' := 3) hκ 3 rfl rfl dX8_takeOfFirst_2 rfl ?_
    refine j_aload_n (pc' := 4) hκ 0 rfl rfl dX8_takeOfFirst_3 rfl ?_
    refine jg_7_5 (pc' := 7) hκ iw_X8_takeOfFirst_X8 (fl_in hκ wd_X8_takeOfFirst_f22) dX8_takeOfFirst_4 rfl ?_
    refine j_icmp_ge (tgt := 60) (pc' := 10) hκ dX8_takeOfFirst_7 (by decide) rfl (fun c => ?_) (fun c => ?_)
    · replace h := h.1 c
      refine j_sub [] rfl ?_
      exact hK60 _  h
    · replace h := h.2 c
      refine j_aload_n (pc' := 11) hκ 0 rfl rfl dX8_takeOfFirst_10 rfl ?_
      refine jg_7_7 (pc' := 14) hκ iw_X8_takeOfFirst_X8 (fl_in hκ wd_X8_takeOfFirst_f29) dX8_takeOfFirst_11 rfl ?_
      refine j_iconst (pc' := 15) (v := 2) hκ (by decide) dX8_takeOfFirst_14 rfl ?_
      refine j_icmp_ge (tgt := 60) (pc' := 18) hκ dX8_takeOfFirst_15 (by decide) rfl (fun c => ?_) (fun c => ?_)
      · replace h := h.1 c
        refine j_sub [] rfl ?_
        exact hK60 _  h
      · replace h := h.2 c
        refine j_aload_n (pc' := 19) hκ 0 rfl rfl dX8_takeOfFirst_18 rfl ?_
        refine j_iload_n (pc' := 20) hκ 3 rfl rfl dX8_takeOfFirst_19 rfl ?_
        refine jx_callVi (pc' := 23) hκ (c_Tree_pairAt (dg hκ) h) rfl rfl rfl gX8_takeOfFirst_X8_pairAt hqV_X8_pairAt ⟨Nat.le_of_ble_eq_true rfl, Nat.le_of_ble_eq_true rfl⟩ (wg_7 g _ _) rfl rfl rfl (Nat.le_of_ble_eq_true rfl) dX8_takeOfFirst_20 rfl (fun r2 X1 h => ?_)
        refine jx_callNi (pc' := 26) hκ (c_LR_lesserOf (dg hκ) h) rfl rfl rfl gX8_takeOfFirst_X9_lesserOf_n64 13 rfl wd_X8_takeOfFirst_iX9 wd_X8_takeOfFirst_s_X9_lesserOf hqS_X9_lesserOf ⟨Nat.le_of_ble_eq_true rfl, Nat.le_of_ble_eq_true rfl⟩ rfl rfl (Nat.le_of_ble_eq_true rfl) dX8_takeOfFirst_23 rfl (fun r4 X3 h => ?_)
        refine j_iload_n (pc' := 27) hκ 1 rfl rfl dX8_takeOfFirst_26 rfl ?_
        refine j_icmp_ne (tgt := 54) (pc' := 30) hκ dX8_takeOfFirst_27 (by decide) rfl (fun c => ?_) (fun c => ?_)
        · replace h := h.1 c
          refine j_iinc (pc' := 57) (v := l3 + 1) (lv' := [(3, .int (l3 + 1)), (0, .ref (g.2.1 7)), (1, .int l1), (2, .int l2)]) hκ 3 rfl rfl (Nat.le_of_ble_eq_true rfl) rfl dX8_takeOfFirst_54 rfl ?_
          refine j_goto (pc' := 2) hκ (by decide) dX8_takeOfFirst_57 ?_
          refine j_sub [1, 2, 3, 0] rfl ?_
          exact ih _ _ _ _  h
        · replace h := h.2 c
          refine j_aload_n (pc' := 31) hκ 0 rfl rfl dX8_takeOfFirst_30 rfl ?_
          refine j_iload_n (pc' := 32) hκ 3 rfl rfl dX8_takeOfFirst_31 rfl ?_
          refine j_iload_n (pc' := 33) hκ 2 rfl rfl dX8_takeOfFirst_32 rfl ?_
          refine jx_callVi (pc' := 36) hκ (c_Tree_mayTake (dg hκ) h) rfl rfl rfl gX8_takeOfFirst_X8_mayTake hqV_X8_mayTake ⟨Nat.le_of_ble_eq_true rfl, Nat.le_of_ble_eq_true rfl⟩ (wg_7 g _ _) rfl rfl rfl (Nat.le_of_ble_eq_true rfl) dX8_takeOfFirst_33 rfl (fun r6 X5 h => ?_)
          refine j_if_eq (tgt := 54) (pc' := 39) hκ dX8_takeOfFirst_36 (by decide) rfl (fun c => ?_) (fun c => ?_)
          · replace h := h.1 c
            refine j_iinc (pc' := 57) (v := l3 + 1) (lv' := [(3, .int (l3 + 1)), (0, .ref (g.2.1 7)), (1, .int l1), (2, .int l2)]) hκ 3 rfl rfl (Nat.le_of_ble_eq_true rfl) rfl dX8_takeOfFirst_54 rfl ?_
            refine j_goto (pc' := 2) hκ (by decide) dX8_takeOfFirst_57 ?_
            refine j_sub [1, 2, 3, 0] rfl ?_
            exact ih _ _ _ _  h
          · replace h := h.2 c
            refine j_aload_n (pc' := 40) hκ 0 rfl rfl dX8_takeOfFirst_39 rfl ?_
            refine j_iload_n (pc' := 41) hκ 3 rfl rfl dX8_takeOfFirst_40 rfl ?_
            refine jx_callVv (pc' := 44) hκ (c_Tree_take (dg hκ) h) rfl rfl rfl gX8_takeOfFirst_X8_take hqV_X8_take ⟨Nat.le_of_ble_eq_true rfl, Nat.le_of_ble_eq_true rfl⟩ (wg_7 g _ _) rfl rfl rfl (Nat.le_of_ble_eq_true rfl) dX8_takeOfFirst_41 rfl (fun X7 h => ?_)
            refine j_aload_n (pc' := 45) hκ 0 rfl rfl dX8_takeOfFirst_44 rfl ?_
            refine j_dup (pc' := 46) hκ rfl dX8_takeOfFirst_45 rfl ?_
            refine jg_7_7 (pc' := 49) hκ iw_X8_takeOfFirst_X8 (fl_in hκ wd_X8_takeOfFirst_f29) dX8_takeOfFirst_46 rfl ?_
            refine j_iconst (pc' := 50) (v := 1) hκ (by decide) dX8_takeOfFirst_49 rfl ?_
            refine j_iadd (pc' := 51) hκ dX8_takeOfFirst_50 rfl ?_
            refine jp_7_7 (pc' := 54) hκ iw_X8_takeOfFirst_X8 (fl_in hκ wd_X8_takeOfFirst_f29) dX8_takeOfFirst_51 rfl ?_
            refine j_nmX (fun X9 eX9 => ?_)
            replace h := h X9 eX9
            refine j_iinc (pc' := 57) (v := l3 + 1) (lv' := [(3, .int (l3 + 1)), (0, .ref (g.2.1 7)), (1, .int l1), (2, .int l2)]) hκ 3 rfl rfl (Nat.le_of_ble_eq_true rfl) rfl dX8_takeOfFirst_54 rfl ?_
            refine j_goto (pc' := 2) hκ (by decide) dX8_takeOfFirst_57 ?_
            refine j_sub [1, 2, 3, 0] rfl ?_
            exact ih _ _ _ _  h
def wp_Tree_takeOfFirst (X : ST) (p1 : Int32) (p2 : Int32) (post : ST → Prop) : Prop :=
  ∃ n, wp_Tree_takeOfFirst_2 (fun X10 => post X10) post n X p1 p2 0
set_option maxHeartbeats 4000000 in
set_option maxRecDepth 100000 in
theorem lb_Tree_takeOfFirst {κ : Cx} {g : Gx} {M : ST} (hκ : CF κ g RX8 cX8_takeOfFirst wsX8_takeOfFirst 4 rm_Tree_takeOfFirst) {post : ST → Prop} (hR : RtxV κ g 4 cX8_takeOfFirst M post) {X : ST} {p1 : Int32} {p2 : Int32} (h : wp_Tree_takeOfFirst X p1 p2 post) : Jw κ g 4 X M [(0, .ref (g.2.1 7)), (1, .int p1), (2, .int p2)] 0 [] := by
  unfold wp_Tree_takeOfFirst at h
  refine j_iconst (pc' := 1) (v := 0) hκ (by decide) dX8_takeOfFirst_0 rfl ?_
  refine j_istore_n (pc' := 2) (lv' := [(3, .int 0), (0, .ref (g.2.1 7)), (1, .int p1), (2, .int p2)]) hκ (Nat.le_of_ble_eq_true rfl) rfl rfl dX8_takeOfFirst_1 rfl ?_
  obtain ⟨n, h⟩ := h
  refine j_sub [1, 2, 3, 0] rfl ?_
  refine lb_Tree_takeOfFirst_2 hκ hR ?_ n _ _ _ _  h
  intro X10  h
  exact hR _ _ _ dX8_takeOfFirst_60 h
theorem c_Tree_takeOfFirst {g : Gx} (hg : Dg g) {X M : ST} {p1 : Int32} {p2 : Int32} {post : ST → Prop} (h : wp_Tree_takeOfFirst X p1 p2 post) (l : Launch) : Met l yX8_takeOfFirst wsX8_takeOfFirst rm_Tree_takeOfFirst (va_Pc [.ref (g.2.1 7), .int p1, .int p2] (PU g X M)) (va_Qv post (fun Y t => va_P g.1 vwCl (ww g Y M) t.heap) (wA g)) 0 0 (wA g) :=
  met_xv hg (by decide) rfl [.ref (g.2.1 7), .int p1, .int p2] rfl (Nat.le_of_ble_eq_true rfl) (fun κ hκ hR => lb_Tree_takeOfFirst hκ hR h) l
theorem hqV_X8_takeOfFirst : yX8_takeOfFirst.cls = RX8 ∧ yX8_takeOfFirst.cls ≠ "java/lang/invoke/MethodHandle" ∧ yX8_takeOfFirst.cls ≠ "java/lang/invoke/VarHandle" ∧ (parseMethodDescriptor yX8_takeOfFirst.desc).map (fun d => d.parameters.length) = some 2 := by decide +kernel
abbrev rm_Tree_grow : Room := { frames := 4, cells := 0, slots := 0, locals := 93 }
def wp_Tree_grow_17_s (K38 : ST → Prop) (post : ST → Prop) (rec : ST → Int32 → Prop) (X : ST) (l1 : Int32) : Prop :=
  (12 ≤ l1 → (K38 X)) ∧ (¬ 12 ≤ l1 → (vp_in l1 12 ∧ (∀ X4 : ST, X4 = xs_Tree_hung X (upd (x_Tree_hung X) l1.toNatClampNeg ((1 : Int32) <<< (l1 &&& 31))) → rec X4 (l1 + 1))))
def wp_Tree_grow_17 (K38 : ST → Prop) (post : ST → Prop) : Nat → ST → Int32 → Prop
  | 0 => fun _ _ => False
  | n + 1 => wp_Tree_grow_17_s K38 post (wp_Tree_grow_17 K38 post n)
set_option maxHeartbeats 4000000 in
set_option maxRecDepth 100000 in
theorem lb_Tree_grow_17 {κ : Cx} {g : Gx} {M : ST} (hκ : CF κ g RX8 cX8_grow wsX8_grow 2 rm_Tree_grow) {post : ST → Prop} (hR : RtxV κ g 2 cX8_grow M post) {K38 : ST → Prop} (hK38 : ∀ (X : ST), K38 X → Jw κ g 2 X M [(0, .ref (g.2.1 7))] 38 []) : ∀ (n : Nat) (X : ST) (l1 : Int32), wp_Tree_grow_17 K38 post n X l1 → Jw κ g 2 X M [(0, .ref (g.2.1 7)), (1, .int l1)] 17 [] := by
  intro n
  induction n with
  | zero =>
    intro X l1  h
    exact h.elim
  | succ n ih =>
    intro X l1  h
    have h : wp_Tree_grow_17_s K38 post (wp_Tree_grow_17 K38 post n) X l1 := h
    unfold wp_Tree_grow_17_s at h
    refine j_iload_n (pc' := 18) hκ 1 rfl rfl dX8_grow_17 rfl ?_
    refine j_bipush (pc' := 20) (v := 12) hκ (by decide) dX8_grow_18 rfl ?_
    refine j_icmp_ge (tgt := 38) (pc' := 23) hκ dX8_grow_20 (by decide) rfl (fun c => ?_) (fun c => ?_)
    · replace h := h.1 c
      refine j_sub [0] rfl ?_
      exact hK38 _  h
    · replace h := h.2 c
      refine j_aload_n (pc' := 24) hκ 0 rfl rfl dX8_grow_23 rfl ?_
      refine jg_7_4 (pc' := 27) hκ iw_X8_grow_X8 (fl_in hκ wd_X8_grow_f19) dX8_grow_24 rfl ?_
      refine j_iload_n (pc' := 28) hκ 1 rfl rfl dX8_grow_27 rfl ?_
      refine j_iconst (pc' := 29) (v := 1) hκ (by decide) dX8_grow_28 rfl ?_
      refine j_iload_n (pc' := 30) hκ 1 rfl rfl dX8_grow_29 rfl ?_
      refine j_ishl (pc' := 31) hκ dX8_grow_30 rfl ?_
      refine jx_iast (pc' := 32) hκ (ah_40 g) h.1 dX8_grow_31 rfl ?_
      replace h := h.2
      refine j_nmX (fun X4 eX4 => ?_)
      replace h := h X4 eX4
      refine j_iinc (pc' := 35) (v := l1 + 1) (lv' := [(1, .int (l1 + 1)), (0, .ref (g.2.1 7))]) hκ 1 rfl rfl (Nat.le_of_ble_eq_true rfl) rfl dX8_grow_32 rfl ?_
      refine j_goto (pc' := 17) hκ (by decide) dX8_grow_35 ?_
      refine j_sub [1, 0] rfl ?_
      exact ih _ _  h
def wp_Tree_grow (X : ST) (post : ST → Prop) : Prop :=
  ∀ X1 : ST, X1 = xs_Tree_takenCount X 0 → ∀ X2 : ST, X2 = xs_Tree_takenOfFirst X1 0 → ∀ X3 : ST, X3 = xs_Tree_sum X2 0 → ∃ n, wp_Tree_grow_17 (fun X5 => wp_Lamps_firstLive X5 (fun r7 X6 => wp_Tree_takeOthers X6 r7 1 (fun X8 => wp_Tree_takeOthers X8 r7 0 (fun X10 => wp_Tree_takeOfFirst X10 r7 1 (fun X12 => wp_Tree_takeOfFirst X12 r7 0 (fun X14 => post X14)))))) post n X3 0
set_option maxHeartbeats 4000000 in
set_option maxRecDepth 100000 in
theorem lb_Tree_grow {κ : Cx} {g : Gx} {M : ST} (hκ : CF κ g RX8 cX8_grow wsX8_grow 2 rm_Tree_grow) {post : ST → Prop} (hR : RtxV κ g 2 cX8_grow M post) {X : ST} (h : wp_Tree_grow X post) : Jw κ g 2 X M [(0, .ref (g.2.1 7))] 0 [] := by
  unfold wp_Tree_grow at h
  refine j_aload_n (pc' := 1) hκ 0 rfl rfl dX8_grow_0 rfl ?_
  refine j_iconst (pc' := 2) (v := 0) hκ (by decide) dX8_grow_1 rfl ?_
  refine jp_7_6 (pc' := 5) hκ iw_X8_grow_X8 (fl_in hκ wd_X8_grow_f26) dX8_grow_2 rfl ?_
  refine j_nmX (fun X1 eX1 => ?_)
  replace h := h X1 eX1
  refine j_aload_n (pc' := 6) hκ 0 rfl rfl dX8_grow_5 rfl ?_
  refine j_iconst (pc' := 7) (v := 0) hκ (by decide) dX8_grow_6 rfl ?_
  refine jp_7_7 (pc' := 10) hκ iw_X8_grow_X8 (fl_in hκ wd_X8_grow_f29) dX8_grow_7 rfl ?_
  refine j_nmX (fun X2 eX2 => ?_)
  replace h := h X2 eX2
  refine j_aload_n (pc' := 11) hκ 0 rfl rfl dX8_grow_10 rfl ?_
  refine j_lconst (pc' := 12) (v := 0) hκ (by decide) dX8_grow_11 rfl ?_
  refine jp_7_8 (pc' := 15) hκ iw_X8_grow_X8 (fl_in hκ wd_X8_grow_f32) dX8_grow_12 rfl ?_
  refine j_nmX (fun X3 eX3 => ?_)
  replace h := h X3 eX3
  refine j_iconst (pc' := 16) (v := 0) hκ (by decide) dX8_grow_15 rfl ?_
  refine j_istore_n (pc' := 17) (lv' := [(1, .int 0), (0, .ref (g.2.1 7))]) hκ (Nat.le_of_ble_eq_true rfl) rfl rfl dX8_grow_16 rfl ?_
  obtain ⟨n, h⟩ := h
  refine j_sub [1, 0] rfl ?_
  refine lb_Tree_grow_17 hκ hR ?_ n _ _  h
  intro X5  h
  refine j_aload_n (pc' := 39) hκ 0 rfl rfl dX8_grow_38 rfl ?_
  refine jg_7_0 (pc' := 42) hκ iw_X8_grow_X8 (fl_in hκ wd_X8_grow_f36) dX8_grow_39 rfl ?_
  refine jx_callVi (pc' := 45) hκ (c_Lamps_firstLive (dg hκ) h) rfl rfl rfl gX8_grow_X2_firstLive hqV_X2_firstLive ⟨Nat.le_of_ble_eq_true rfl, Nat.le_of_ble_eq_true rfl⟩ (wg_3 g _ _) rfl rfl rfl (Nat.le_of_ble_eq_true rfl) dX8_grow_42 rfl (fun r7 X6 h => ?_)
  refine j_istore_n (pc' := 46) (lv' := [(1, .int r7), (0, .ref (g.2.1 7))]) hκ (Nat.le_of_ble_eq_true rfl) rfl rfl dX8_grow_45 rfl ?_
  refine j_aload_n (pc' := 47) hκ 1 rfl rfl dX8_grow_46 rfl ?_
  refine j_iload_n (pc' := 48) hκ 0 rfl rfl dX8_grow_47 rfl ?_
  refine j_iconst (pc' := 49) (v := 1) hκ (by decide) dX8_grow_48 rfl ?_
  refine jx_callVv (pc' := 52) hκ (c_Tree_takeOthers (dg hκ) h) rfl rfl rfl gX8_grow_X8_takeOthers hqV_X8_takeOthers ⟨Nat.le_of_ble_eq_true rfl, Nat.le_of_ble_eq_true rfl⟩ (wg_7 g _ _) rfl rfl rfl (Nat.le_of_ble_eq_true rfl) dX8_grow_49 rfl (fun X8 h => ?_)
  refine j_aload_n (pc' := 53) hκ 1 rfl rfl dX8_grow_52 rfl ?_
  refine j_iload_n (pc' := 54) hκ 0 rfl rfl dX8_grow_53 rfl ?_
  refine j_iconst (pc' := 55) (v := 0) hκ (by decide) dX8_grow_54 rfl ?_
  refine jx_callVv (pc' := 58) hκ (c_Tree_takeOthers (dg hκ) h) rfl rfl rfl gX8_grow_X8_takeOthers hqV_X8_takeOthers ⟨Nat.le_of_ble_eq_true rfl, Nat.le_of_ble_eq_true rfl⟩ (wg_7 g _ _) rfl rfl rfl (Nat.le_of_ble_eq_true rfl) dX8_grow_55 rfl (fun X10 h => ?_)
  refine j_aload_n (pc' := 59) hκ 1 rfl rfl dX8_grow_58 rfl ?_
  refine j_iload_n (pc' := 60) hκ 0 rfl rfl dX8_grow_59 rfl ?_
  refine j_iconst (pc' := 61) (v := 1) hκ (by decide) dX8_grow_60 rfl ?_
  refine jx_callVv (pc' := 64) hκ (c_Tree_takeOfFirst (dg hκ) h) rfl rfl rfl gX8_grow_X8_takeOfFirst hqV_X8_takeOfFirst ⟨Nat.le_of_ble_eq_true rfl, Nat.le_of_ble_eq_true rfl⟩ (wg_7 g _ _) rfl rfl rfl (Nat.le_of_ble_eq_true rfl) dX8_grow_61 rfl (fun X12 h => ?_)
  refine j_aload_n (pc' := 65) hκ 1 rfl rfl dX8_grow_64 rfl ?_
  refine j_iload_n (pc' := 66) hκ 0 rfl rfl dX8_grow_65 rfl ?_
  refine j_iconst (pc' := 67) (v := 0) hκ (by decide) dX8_grow_66 rfl ?_
  refine jx_callVv (pc' := 70) hκ (c_Tree_takeOfFirst (dg hκ) h) rfl rfl rfl gX8_grow_X8_takeOfFirst hqV_X8_takeOfFirst ⟨Nat.le_of_ble_eq_true rfl, Nat.le_of_ble_eq_true rfl⟩ (wg_7 g _ _) rfl rfl rfl (Nat.le_of_ble_eq_true rfl) dX8_grow_67 rfl (fun X14 h => ?_)
  exact hR _ _ _ dX8_grow_70 h
theorem c_Tree_grow {g : Gx} (hg : Dg g) {X M : ST} {post : ST → Prop} (h : wp_Tree_grow X post) (l : Launch) : Met l yX8_grow wsX8_grow rm_Tree_grow (va_Pc [.ref (g.2.1 7)] (PU g X M)) (va_Qv post (fun Y t => va_P g.1 vwCl (ww g Y M) t.heap) (wA g)) 0 0 (wA g) :=
  met_xv hg (by decide) rfl [.ref (g.2.1 7)] rfl (Nat.le_of_ble_eq_true rfl) (fun κ hκ hR => lb_Tree_grow hκ hR h) l
theorem hqV_X8_grow : yX8_grow.cls = RX8 ∧ yX8_grow.cls ≠ "java/lang/invoke/MethodHandle" ∧ yX8_grow.cls ≠ "java/lang/invoke/VarHandle" ∧ (parseMethodDescriptor yX8_grow.desc).map (fun d => d.parameters.length) = some 0 := by decide +kernel
abbrev rm_LR_growEmptyCase : Room := { frames := 5, cells := 0, slots := 0, locals := 114 }
def wp_LR_growEmptyCase (X : ST) (post : ST → Prop) : Prop :=
  wp_LR_beginEmptyCase X (fun X1 => wp_Tree_grow X1 (fun X3 => post X3))
set_option maxHeartbeats 4000000 in
set_option maxRecDepth 100000 in
theorem lb_LR_growEmptyCase {κ : Cx} {g : Gx} {M : ST} (hκ : CF κ g RX9 cX9_growEmptyCase wsX9_growEmptyCase 1 rm_LR_growEmptyCase) {post : ST → Prop} (hR : RtxV κ g 1 cX9_growEmptyCase M post) {X : ST} (h : wp_LR_growEmptyCase X post) : Jw κ g 1 X M [(0, .ref (g.2.1 0))] 0 [] := by
  unfold wp_LR_growEmptyCase at h
  refine j_aload_n (pc' := 1) hκ 0 rfl rfl dX9_growEmptyCase_0 rfl ?_
  refine jx_callVv (pc' := 4) hκ (c_LR_beginEmptyCase (dg hκ) h) rfl rfl rfl gX9_growEmptyCase_X9_beginEmptyCase hqV_X9_beginEmptyCase ⟨Nat.le_of_ble_eq_true rfl, Nat.le_of_ble_eq_true rfl⟩ (wg_0 g _ _) rfl rfl rfl (Nat.le_of_ble_eq_true rfl) dX9_growEmptyCase_1 rfl (fun X1 h => ?_)
  refine j_aload_n (pc' := 5) hκ 0 rfl rfl dX9_growEmptyCase_4 rfl ?_
  refine jg_0_6 (pc' := 8) hκ iw_X9_growEmptyCase_X9 (fl_in hκ wd_X9_growEmptyCase_f64) dX9_growEmptyCase_5 rfl ?_
  refine jx_callVv (pc' := 11) hκ (c_Tree_grow (dg hκ) h) rfl rfl rfl gX9_growEmptyCase_X8_grow hqV_X8_grow ⟨Nat.le_of_ble_eq_true rfl, Nat.le_of_ble_eq_true rfl⟩ (wg_7 g _ _) rfl rfl rfl (Nat.le_of_ble_eq_true rfl) dX9_growEmptyCase_8 rfl (fun X3 h => ?_)
  exact hR _ _ _ dX9_growEmptyCase_11 h
theorem c_LR_growEmptyCase {g : Gx} (hg : Dg g) {X M : ST} {post : ST → Prop} (h : wp_LR_growEmptyCase X post) (l : Launch) : Met l yX9_growEmptyCase wsX9_growEmptyCase rm_LR_growEmptyCase (va_Pc [.ref (g.2.1 0)] (PU g X M)) (va_Qv post (fun Y t => va_P g.1 vwCl (ww g Y M) t.heap) (wA g)) 0 0 (wA g) :=
  met_xv hg (by decide) rfl [.ref (g.2.1 0)] rfl (Nat.le_of_ble_eq_true rfl) (fun κ hκ hR => lb_LR_growEmptyCase hκ hR h) l
theorem hqV_X9_growEmptyCase : yX9_growEmptyCase.cls = RX9 ∧ yX9_growEmptyCase.cls ≠ "java/lang/invoke/MethodHandle" ∧ yX9_growEmptyCase.cls ≠ "java/lang/invoke/VarHandle" ∧ (parseMethodDescriptor yX9_growEmptyCase.desc).map (fun d => d.parameters.length) = some 0 := by decide +kernel
theorem wd_X9_climb_f64 : Cond.fieldLink RX9 64 "LampRound" "tree" "LLampRound$Tree;" ∈ wsX9_climb := List.mem_of_getElem? (i := 1) rfl
theorem iw_X9_climb_X9 : ∀ w ∈ wsX90, w ∈ wsX9_climb := fun _ h => List.mem_cons_of_mem _ (List.mem_append_left _ (List.mem_append_left _ (List.mem_append_left _ (List.mem_append_left _ (List.mem_append_right _ h)))))
theorem wd_X8_sumOfCase_f36 : Cond.fieldLink RX8 36 "LampRound$Tree" "lamps" "LLampRound$Lamps;" ∈ wsX8_sumOfCase := List.mem_of_getElem? (i := 1) rfl
theorem iw_X8_sumOfCase_X8 : ∀ w ∈ wsX80, w ∈ wsX8_sumOfCase := fun _ h => List.mem_cons_of_mem _ (List.mem_append_left _ (List.mem_append_right _ h))
theorem wd_X8_sumOfCase_c132 : Cond.constantLong RX8 132 (4611686018427387904) ∈ wsX8_sumOfCase := List.mem_of_getElem? (i := 4) rfl
theorem wd_X8_sumOfCase_f29 : Cond.fieldLink RX8 29 "LampRound$Tree" "takenOfFirst" "I" ∈ wsX8_sumOfCase := List.mem_of_getElem? (i := 2) rfl
theorem wd_X8_sumOfCase_f19 : Cond.fieldLink RX8 19 "LampRound$Tree" "hung" "[I" ∈ wsX8_sumOfCase := List.mem_of_getElem? (i := 3) rfl
theorem iw_X8_sumOfCase_X2 : ∀ w ∈ wsX20, w ∈ wsX8_sumOfCase := fun _ h => List.mem_cons_of_mem _ (List.mem_append_right _ h)
theorem wd_X8_sumOfCase_f32 : Cond.fieldLink RX8 32 "LampRound$Tree" "sum" "J" ∈ wsX8_sumOfCase := List.mem_of_getElem? (i := 5) rfl
theorem wd_X8_sumOfCase_c134 : Cond.constantLong RX8 134 (2) ∈ wsX8_sumOfCase := List.mem_of_getElem? (i := 6) rfl
abbrev rm_Tree_sumOfCase : Room := { frames := 2, cells := 0, slots := 0, locals := 42 }
def wp_Tree_sumOfCase_49_s (K97 : ST → Int64 → Prop) (post : Int64 → ST → Prop) (rec : ST → Int64 → Int32 → Prop) (X : ST) (l2 : Int64) (l4 : Int32) : Prop :=
  ((x_Lamps_count X) ≤ l4 → (K97 X l2)) ∧ (¬ (x_Lamps_count X) ≤ l4 → (wp_Lamps_isLive X l4 (fun r5 X4 => (r5 = 0 → (rec X4 l2 (l4 + 1))) ∧ (¬ r5 = 0 → (vp_in l4 12 ∧ (∀ v6 : Int64, v6 = l2 - (2 * ((x_Lamps_prices X4 l4.toNatClampNeg).toInt64)) → rec X4 v6 (l4 + 1)))))))
def wp_Tree_sumOfCase_49 (K97 : ST → Int64 → Prop) (post : Int64 → ST → Prop) : Nat → ST → Int64 → Int32 → Prop
  | 0 => fun _ _ _ => False
  | n + 1 => wp_Tree_sumOfCase_49_s K97 post (wp_Tree_sumOfCase_49 K97 post n)
set_option maxHeartbeats 4000000 in
set_option maxRecDepth 100000 in
theorem lb_Tree_sumOfCase_49 {κ : Cx} {g : Gx} {M : ST} (hκ : CF κ g RX8 cX8_sumOfCase wsX8_sumOfCase 5 rm_Tree_sumOfCase) {post : Int64 → ST → Prop} (hR : RtxL κ g 5 cX8_sumOfCase M post) {K97 : ST → Int64 → Prop} (hK97 : ∀ (X : ST) (l2 : Int64), K97 X l2 → Jw κ g 5 X M [(2, .long l2)] 97 []) : ∀ (n : Nat) (X : ST) (l2 : Int64) (l4 : Int32), wp_Tree_sumOfCase_49 K97 post n X l2 l4 → Jw κ g 5 X M [(0, .ref (g.2.1 7)), (2, .long l2), (4, .int l4)] 49 [] := by
  intro n
  induction n with
  | zero =>
    intro X l2 l4  h
    exact h.elim
  | succ n ih =>
    intro X l2 l4  h
    have h : wp_Tree_sumOfCase_49_s K97 post (wp_Tree_sumOfCase_49 K97 post n) X l2 l4 := h
    unfold wp_Tree_sumOfCase_49_s at h
    refine j_iload (pc' := 51) hκ 2 rfl dX8_sumOfCase_49 rfl ?_
    refine j_aload_n (pc' := 52) hκ 0 rfl rfl dX8_sumOfCase_51 rfl ?_
    refine jg_7_0 (pc' := 55) hκ iw_X8_sumOfCase_X8 (fl_in hκ wd_X8_sumOfCase_f36) dX8_sumOfCase_52 rfl ?_
    refine jg_3_9 (pc' := 58) hκ iw_X8_sumOfCase_X2 (fl_ne hκ 44 rfl) dX8_sumOfCase_55 rfl ?_
    refine j_icmp_ge (tgt := 97) (pc' := 61) hκ dX8_sumOfCase_58 (by decide) rfl (fun c => ?_) (fun c => ?_)
    · replace h := h.1 c
      refine j_sub [1] rfl ?_
      exact hK97 _ _  h
    · replace h := h.2 c
      refine j_aload_n (pc' := 62) hκ 0 rfl rfl dX8_sumOfCase_61 rfl ?_
      refine jg_7_0 (pc' := 65) hκ iw_X8_sumOfCase_X8 (fl_in hκ wd_X8_sumOfCase_f36) dX8_sumOfCase_62 rfl ?_
      refine j_iload (pc' := 67) hκ 2 rfl dX8_sumOfCase_65 rfl ?_
      refine jx_callVi (pc' := 70) hκ (c_Lamps_isLive (dg hκ) h) rfl rfl rfl gX8_sumOfCase_X2_isLive hqV_X2_isLive ⟨Nat.le_of_ble_eq_true rfl, Nat.le_of_ble_eq_true rfl⟩ (wg_3 g _ _) rfl rfl rfl (Nat.le_of_ble_eq_true rfl) dX8_sumOfCase_67 rfl (fun r5 X4 h => ?_)
      refine j_if_eq (tgt := 91) (pc' := 73) hκ dX8_sumOfCase_70 (by decide) rfl (fun c => ?_) (fun c => ?_)
      · replace h := h.1 c
        refine j_iinc (pc' := 94) (v := l4 + 1) (lv' := [(4, .int (l4 + 1)), (0, .ref (g.2.1 7)), (2, .long l2)]) hκ 2 rfl rfl (Nat.le_of_ble_eq_true rfl) rfl dX8_sumOfCase_91 rfl ?_
        refine j_goto (pc' := 49) hκ (by decide) dX8_sumOfCase_94 ?_
        refine j_sub [1, 2, 0] rfl ?_
        exact ih _ _ _  h
      · replace h := h.2 c
        refine j_lload_n (pc' := 74) hκ 1 rfl rfl dX8_sumOfCase_73 rfl ?_
        refine j_ldc2_w (pc' := 77) hκ wd_X8_sumOfCase_c134 dX8_sumOfCase_74 rfl ?_
        refine j_aload_n (pc' := 78) hκ 0 rfl rfl dX8_sumOfCase_77 rfl ?_
        refine jg_7_0 (pc' := 81) hκ iw_X8_sumOfCase_X8 (fl_in hκ wd_X8_sumOfCase_f36) dX8_sumOfCase_78 rfl ?_
        refine jg_3_4 (pc' := 84) hκ iw_X8_sumOfCase_X2 (fl_ne hκ 46 rfl) dX8_sumOfCase_81 rfl ?_
        refine j_iload (pc' := 86) hκ 2 rfl dX8_sumOfCase_84 rfl ?_
        refine jx_iald (pc' := 87) hκ (ah_23 g) h.1 dX8_sumOfCase_86 rfl ?_
        replace h := h.2
        refine j_i2l (pc' := 88) hκ dX8_sumOfCase_87 rfl ?_
        refine j_lmul (pc' := 89) hκ dX8_sumOfCase_88 rfl ?_
        refine j_lsub (pc' := 90) hκ dX8_sumOfCase_89 rfl ?_
        refine j_topl (fun v6 ev6 => ?_)
        replace h := h v6 ev6
        refine j_lstore_n (pc' := 91) (lv' := [(2, .long v6), (0, .ref (g.2.1 7)), (4, .int l4)]) hκ (Nat.le_of_ble_eq_true rfl) rfl rfl dX8_sumOfCase_90 rfl ?_
        refine j_iinc (pc' := 94) (v := l4 + 1) (lv' := [(4, .int (l4 + 1)), (2, .long v6), (0, .ref (g.2.1 7))]) hκ 2 rfl rfl (Nat.le_of_ble_eq_true rfl) rfl dX8_sumOfCase_91 rfl ?_
        refine j_goto (pc' := 49) hκ (by decide) dX8_sumOfCase_94 ?_
        refine j_sub [2, 1, 0] rfl ?_
        exact ih _ _ _  h
def wp_Tree_sumOfCase (X : ST) (post : Int64 → ST → Prop) : Prop :=
  wp_Lamps_firstLive X (fun r2 X1 => (r2 = (-1) → (post 4611686018427387904 X1)) ∧ (¬ r2 = (-1) → (((x_Tree_takenOfFirst X1) < 2 → (post 4611686018427387904 X1)) ∧ (¬ (x_Tree_takenOfFirst X1) < 2 → (vp_in r2 12 ∧ (((x_Tree_hung X1 r2.toNatClampNeg) = (x_Lamps_live X1) → (∀ v3 : Int64, v3 = x_Tree_sum X1 → ∃ n, wp_Tree_sumOfCase_49 (fun X7 v8 => post v8 X7) post n X1 v3 0)) ∧ (¬ (x_Tree_hung X1 r2.toNatClampNeg) = (x_Lamps_live X1) → (post 4611686018427387904 X1))))))))
set_option maxHeartbeats 4000000 in
set_option maxRecDepth 100000 in
theorem lb_Tree_sumOfCase {κ : Cx} {g : Gx} {M : ST} (hκ : CF κ g RX8 cX8_sumOfCase wsX8_sumOfCase 5 rm_Tree_sumOfCase) {post : Int64 → ST → Prop} (hR : RtxL κ g 5 cX8_sumOfCase M post) {X : ST} (h : wp_Tree_sumOfCase X post) : Jw κ g 5 X M [(0, .ref (g.2.1 7))] 0 [] := by
  unfold wp_Tree_sumOfCase at h
  refine j_aload_n (pc' := 1) hκ 0 rfl rfl dX8_sumOfCase_0 rfl ?_
  refine jg_7_0 (pc' := 4) hκ iw_X8_sumOfCase_X8 (fl_in hκ wd_X8_sumOfCase_f36) dX8_sumOfCase_1 rfl ?_
  refine jx_callVi (pc' := 7) hκ (c_Lamps_firstLive (dg hκ) h) rfl rfl rfl gX8_sumOfCase_X2_firstLive hqV_X2_firstLive ⟨Nat.le_of_ble_eq_true rfl, Nat.le_of_ble_eq_true rfl⟩ (wg_3 g _ _) rfl rfl rfl (Nat.le_of_ble_eq_true rfl) dX8_sumOfCase_4 rfl (fun r2 X1 h => ?_)
  refine j_istore_n (pc' := 8) (lv' := [(1, .int r2), (0, .ref (g.2.1 7))]) hκ (Nat.le_of_ble_eq_true rfl) rfl rfl dX8_sumOfCase_7 rfl ?_
  refine j_iload_n (pc' := 9) hκ 0 rfl rfl dX8_sumOfCase_8 rfl ?_
  refine j_iconst (pc' := 10) (v := (-1)) hκ (by decide) dX8_sumOfCase_9 rfl ?_
  refine j_icmp_eq (tgt := 37) (pc' := 13) hκ dX8_sumOfCase_10 (by decide) rfl (fun c => ?_) (fun c => ?_)
  · replace h := h.1 c
    refine j_ldc2_w (pc' := 40) hκ wd_X8_sumOfCase_c132 dX8_sumOfCase_37 rfl ?_
    exact hR _ _ _ _ dX8_sumOfCase_40 h
  · replace h := h.2 c
    refine j_aload_n (pc' := 14) hκ 1 rfl rfl dX8_sumOfCase_13 rfl ?_
    refine jg_7_7 (pc' := 17) hκ iw_X8_sumOfCase_X8 (fl_in hκ wd_X8_sumOfCase_f29) dX8_sumOfCase_14 rfl ?_
    refine j_iconst (pc' := 18) (v := 2) hκ (by decide) dX8_sumOfCase_17 rfl ?_
    refine j_icmp_lt (tgt := 37) (pc' := 21) hκ dX8_sumOfCase_18 (by decide) rfl (fun c => ?_) (fun c => ?_)
    · replace h := h.1 c
      refine j_ldc2_w (pc' := 40) hκ wd_X8_sumOfCase_c132 dX8_sumOfCase_37 rfl ?_
      exact hR _ _ _ _ dX8_sumOfCase_40 h
    · replace h := h.2 c
      refine j_aload_n (pc' := 22) hκ 1 rfl rfl dX8_sumOfCase_21 rfl ?_
      refine jg_7_4 (pc' := 25) hκ iw_X8_sumOfCase_X8 (fl_in hκ wd_X8_sumOfCase_f19) dX8_sumOfCase_22 rfl ?_
      refine j_iload_n (pc' := 26) hκ 0 rfl rfl dX8_sumOfCase_25 rfl ?_
      refine jx_iald (pc' := 27) hκ (ah_40 g) h.1 dX8_sumOfCase_26 rfl ?_
      replace h := h.2
      refine j_aload_n (pc' := 28) hκ 1 rfl rfl dX8_sumOfCase_27 rfl ?_
      refine jg_7_0 (pc' := 31) hκ iw_X8_sumOfCase_X8 (fl_in hκ wd_X8_sumOfCase_f36) dX8_sumOfCase_28 rfl ?_
      refine jg_3_8 (pc' := 34) hκ iw_X8_sumOfCase_X2 (fl_ne hκ 47 rfl) dX8_sumOfCase_31 rfl ?_
      refine j_icmp_eq (tgt := 41) (pc' := 37) hκ dX8_sumOfCase_34 (by decide) rfl (fun c => ?_) (fun c => ?_)
      · replace h := h.1 c
        refine j_aload_n (pc' := 42) hκ 1 rfl rfl dX8_sumOfCase_41 rfl ?_
        refine jg_7_8 (pc' := 45) hκ iw_X8_sumOfCase_X8 (fl_in hκ wd_X8_sumOfCase_f32) dX8_sumOfCase_42 rfl ?_
        refine j_topl (fun v3 ev3 => ?_)
        replace h := h v3 ev3
        refine j_lstore_n (pc' := 46) (lv' := [(2, .long v3), (1, .int r2), (0, .ref (g.2.1 7))]) hκ (Nat.le_of_ble_eq_true rfl) rfl rfl dX8_sumOfCase_45 rfl ?_
        refine j_iconst (pc' := 47) (v := 0) hκ (by decide) dX8_sumOfCase_46 rfl ?_
        refine j_istore (pc' := 49) (lv' := [(4, .int 0), (2, .long v3), (1, .int r2), (0, .ref (g.2.1 7))]) hκ (Nat.le_of_ble_eq_true rfl) rfl dX8_sumOfCase_47 rfl ?_
        obtain ⟨n, h⟩ := h
        refine j_sub [3, 1, 0] rfl ?_
        refine lb_Tree_sumOfCase_49 hκ hR ?_ n _ _ _  h
        intro X7 v8  h
        refine j_lload_n (pc' := 98) hκ 0 rfl rfl dX8_sumOfCase_97 rfl ?_
        exact hR _ _ _ _ dX8_sumOfCase_98 h
      · replace h := h.2 c
        refine j_ldc2_w (pc' := 40) hκ wd_X8_sumOfCase_c132 dX8_sumOfCase_37 rfl ?_
        exact hR _ _ _ _ dX8_sumOfCase_40 h
theorem c_Tree_sumOfCase {g : Gx} (hg : Dg g) {X M : ST} {post : Int64 → ST → Prop} (h : wp_Tree_sumOfCase X post) (l : Launch) : Met l yX8_sumOfCase wsX8_sumOfCase rm_Tree_sumOfCase (va_Pc [.ref (g.2.1 7)] (PU g X M)) (va_Ql post (fun Y t => va_P g.1 vwCl (ww g Y M) t.heap) (wA g)) 0 0 (wA g) :=
  met_xl hg (by decide) rfl [.ref (g.2.1 7)] rfl (Nat.le_of_ble_eq_true rfl) (fun κ hκ hR => lb_Tree_sumOfCase hκ hR h) l
theorem hqV_X8_sumOfCase : yX8_sumOfCase.cls = RX8 ∧ yX8_sumOfCase.cls ≠ "java/lang/invoke/MethodHandle" ∧ yX8_sumOfCase.cls ≠ "java/lang/invoke/VarHandle" ∧ (parseMethodDescriptor yX8_sumOfCase.desc).map (fun d => d.parameters.length) = some 0 := by decide +kernel
theorem wd_X9_climb_c298 : Cond.constantLong RX9 298 (4611686018427387904) ∈ wsX9_climb := List.mem_of_getElem? (i := 2) rfl
theorem wd_X8_raisePrices_f36 : Cond.fieldLink RX8 36 "LampRound$Tree" "lamps" "LLampRound$Lamps;" ∈ wsX8_raisePrices := List.mem_of_getElem? (i := 1) rfl
theorem iw_X8_raisePrices_X8 : ∀ w ∈ wsX80, w ∈ wsX8_raisePrices := fun _ h => List.mem_cons_of_mem _ (List.mem_append_left _ (List.mem_append_right _ h))
theorem iw_X8_raisePrices_X2 : ∀ w ∈ wsX20, w ∈ wsX8_raisePrices := fun _ h => List.mem_cons_of_mem _ (List.mem_append_right _ h)
theorem wd_X8_raisePrices_f26 : Cond.fieldLink RX8 26 "LampRound$Tree" "takenCount" "I" ∈ wsX8_raisePrices := List.mem_of_getElem? (i := 2) rfl
theorem wd_X8_raisePrices_f15 : Cond.fieldLink RX8 15 "LampRound$Tree" "takenPairs" "[I" ∈ wsX8_raisePrices := List.mem_of_getElem? (i := 3) rfl
theorem wd_X8_raisePrices_iX9 : Cond.initialized RX9 ∈ wsX8_raisePrices := List.mem_of_getElem? (i := 16) rfl
theorem wd_X8_raisePrices_s_X9_lesserOf : Cond.static yX9_lesserOf ∈ wsX8_raisePrices := List.mem_of_getElem? (i := 18) rfl
theorem wd_X8_raisePrices_s_X9_greaterOf : Cond.static yX9_greaterOf ∈ wsX8_raisePrices := List.mem_of_getElem? (i := 20) rfl
abbrev rm_Tree_raisePrices : Room := { frames := 2, cells := 0, slots := 0, locals := 42 }
def wp_Tree_raisePrices_2_s (K43 : ST → Prop) (post : ST → Prop) (rec : ST → Int32 → Prop) (X : ST) (l1 : Int32) : Prop :=
  ((x_Lamps_count X) ≤ l1 → (K43 X)) ∧ (¬ (x_Lamps_count X) ≤ l1 → (wp_Lamps_isLive X l1 (fun r2 X1 => (r2 = 0 → (rec X1 (l1 + 1))) ∧ (¬ r2 = 0 → (vp_in l1 12 ∧ (vp_in l1 12 ∧ (∀ X3 : ST, X3 = xs_Lamps_prices X1 (upd (x_Lamps_prices X1) l1.toNatClampNeg ((x_Lamps_prices X1 l1.toNatClampNeg) - 2)) → rec X3 (l1 + 1))))))))
def wp_Tree_raisePrices_2 (K43 : ST → Prop) (post : ST → Prop) : Nat → ST → Int32 → Prop
  | 0 => fun _ _ => False
  | n + 1 => wp_Tree_raisePrices_2_s K43 post (wp_Tree_raisePrices_2 K43 post n)
set_option maxHeartbeats 4000000 in
set_option maxRecDepth 100000 in
theorem lb_Tree_raisePrices_2 {κ : Cx} {g : Gx} {M : ST} (hκ : CF κ g RX8 cX8_raisePrices wsX8_raisePrices 2 rm_Tree_raisePrices) {post : ST → Prop} (hR : RtxV κ g 2 cX8_raisePrices M post) {K43 : ST → Prop} (hK43 : ∀ (X : ST), K43 X → Jw κ g 2 X M [(0, .ref (g.2.1 7))] 43 []) : ∀ (n : Nat) (X : ST) (l1 : Int32), wp_Tree_raisePrices_2 K43 post n X l1 → Jw κ g 2 X M [(0, .ref (g.2.1 7)), (1, .int l1)] 2 [] := by
  intro n
  induction n with
  | zero =>
    intro X l1  h
    exact h.elim
  | succ n ih =>
    intro X l1  h
    have h : wp_Tree_raisePrices_2_s K43 post (wp_Tree_raisePrices_2 K43 post n) X l1 := h
    unfold wp_Tree_raisePrices_2_s at h
    refine j_iload_n (pc' := 3) hκ 1 rfl rfl dX8_raisePrices_2 rfl ?_
    refine j_aload_n (pc' := 4) hκ 0 rfl rfl dX8_raisePrices_3 rfl ?_
    refine jg_7_0 (pc' := 7) hκ iw_X8_raisePrices_X8 (fl_in hκ wd_X8_raisePrices_f36) dX8_raisePrices_4 rfl ?_
    refine jg_3_9 (pc' := 10) hκ iw_X8_raisePrices_X2 (fl_ne hκ 44 rfl) dX8_raisePrices_7 rfl ?_
    refine j_icmp_ge (tgt := 43) (pc' := 13) hκ dX8_raisePrices_10 (by decide) rfl (fun c => ?_) (fun c => ?_)
    · replace h := h.1 c
      refine j_sub [0] rfl ?_
      exact hK43 _  h
    · replace h := h.2 c
      refine j_aload_n (pc' := 14) hκ 0 rfl rfl dX8_raisePrices_13 rfl ?_
      refine jg_7_0 (pc' := 17) hκ iw_X8_raisePrices_X8 (fl_in hκ wd_X8_raisePrices_f36) dX8_raisePrices_14 rfl ?_
      refine j_iload_n (pc' := 18) hκ 1 rfl rfl dX8_raisePrices_17 rfl ?_
      refine jx_callVi (pc' := 21) hκ (c_Lamps_isLive (dg hκ) h) rfl rfl rfl gX8_raisePrices_X2_isLive hqV_X2_isLive ⟨Nat.le_of_ble_eq_true rfl, Nat.le_of_ble_eq_true rfl⟩ (wg_3 g _ _) rfl rfl rfl (Nat.le_of_ble_eq_true rfl) dX8_raisePrices_18 rfl (fun r2 X1 h => ?_)
      refine j_if_eq (tgt := 37) (pc' := 24) hκ dX8_raisePrices_21 (by decide) rfl (fun c => ?_) (fun c => ?_)
      · replace h := h.1 c
        refine j_iinc (pc' := 40) (v := l1 + 1) (lv' := [(1, .int (l1 + 1)), (0, .ref (g.2.1 7))]) hκ 1 rfl rfl (Nat.le_of_ble_eq_true rfl) rfl dX8_raisePrices_37 rfl ?_
        refine j_goto (pc' := 2) hκ (by decide) dX8_raisePrices_40 ?_
        refine j_sub [1, 0] rfl ?_
        exact ih _ _  h
      · replace h := h.2 c
        refine j_aload_n (pc' := 25) hκ 0 rfl rfl dX8_raisePrices_24 rfl ?_
        refine jg_7_0 (pc' := 28) hκ iw_X8_raisePrices_X8 (fl_in hκ wd_X8_raisePrices_f36) dX8_raisePrices_25 rfl ?_
        refine jg_3_4 (pc' := 31) hκ iw_X8_raisePrices_X2 (fl_ne hκ 46 rfl) dX8_raisePrices_28 rfl ?_
        refine j_iload_n (pc' := 32) hκ 1 rfl rfl dX8_raisePrices_31 rfl ?_
        refine j_dup2 (pc' := 33) hκ rfl rfl dX8_raisePrices_32 rfl ?_
        refine jx_iald (pc' := 34) hκ (ah_23 g) h.1 dX8_raisePrices_33 rfl ?_
        replace h := h.2
        refine j_iconst (pc' := 35) (v := 2) hκ (by decide) dX8_raisePrices_34 rfl ?_
        refine j_isub (pc' := 36) hκ dX8_raisePrices_35 rfl ?_
        refine jx_iast (pc' := 37) hκ (ah_23 g) h.1 dX8_raisePrices_36 rfl ?_
        replace h := h.2
        refine j_nmX (fun X3 eX3 => ?_)
        replace h := h X3 eX3
        refine j_iinc (pc' := 40) (v := l1 + 1) (lv' := [(1, .int (l1 + 1)), (0, .ref (g.2.1 7))]) hκ 1 rfl rfl (Nat.le_of_ble_eq_true rfl) rfl dX8_raisePrices_37 rfl ?_
        refine j_goto (pc' := 2) hκ (by decide) dX8_raisePrices_40 ?_
        refine j_sub [1, 0] rfl ?_
        exact ih _ _  h
def wp_Tree_raisePrices_45_s (K101 : ST → Prop) (post : ST → Prop) (rec : ST → Int32 → Prop) (X : ST) (l1 : Int32) : Prop :=
  ((x_Tree_takenCount X) ≤ l1 → (K101 X)) ∧ (¬ (x_Tree_takenCount X) ≤ l1 → (vp_in l1 12 ∧ (wp_LR_lesserOf X (x_Tree_takenPairs X l1.toNatClampNeg) (fun r6 X5 => vp_in r6 12 ∧ (vp_in r6 12 ∧ (∀ X7 : ST, X7 = xs_Lamps_prices X5 (upd (x_Lamps_prices X5) r6.toNatClampNeg ((x_Lamps_prices X5 r6.toNatClampNeg) + 1)) → vp_in l1 12 ∧ (wp_LR_greaterOf X7 (x_Tree_takenPairs X7 l1.toNatClampNeg) (fun r9 X8 => vp_in r9 12 ∧ (vp_in r9 12 ∧ (∀ X10 : ST, X10 = xs_Lamps_prices X8 (upd (x_Lamps_prices X8) r9.toNatClampNeg ((x_Lamps_prices X8 r9.toNatClampNeg) + 1)) → rec X10 (l1 + 1)))))))))))
def wp_Tree_raisePrices_45 (K101 : ST → Prop) (post : ST → Prop) : Nat → ST → Int32 → Prop
  | 0 => fun _ _ => False
  | n + 1 => wp_Tree_raisePrices_45_s K101 post (wp_Tree_raisePrices_45 K101 post n)
set_option maxHeartbeats 4000000 in
set_option maxRecDepth 100000 in
theorem lb_Tree_raisePrices_45 {κ : Cx} {g : Gx} {M : ST} (hκ : CF κ g RX8 cX8_raisePrices wsX8_raisePrices 2 rm_Tree_raisePrices) {post : ST → Prop} (hR : RtxV κ g 2 cX8_raisePrices M post) {K101 : ST → Prop} (hK101 : ∀ (X : ST), K101 X → Jw κ g 2 X M [] 101 []) : ∀ (n : Nat) (X : ST) (l1 : Int32), wp_Tree_raisePrices_45 K101 post n X l1 → Jw κ g 2 X M [(0, .ref (g.2.1 7)), (1, .int l1)] 45 [] := by
  intro n
  induction n with
  | zero =>
    intro X l1  h
    exact h.elim
  | succ n ih =>
    intro X l1  h
    have h : wp_Tree_raisePrices_45_s K101 post (wp_Tree_raisePrices_45 K101 post n) X l1 := h
    unfold wp_Tree_raisePrices_45_s at h
    refine j_iload_n (pc' := 46) hκ 1 rfl rfl dX8_raisePrices_45 rfl ?_
    refine j_aload_n (pc' := 47) hκ 0 rfl rfl dX8_raisePrices_46 rfl ?_
    refine jg_7_6 (pc' := 50) hκ iw_X8_raisePrices_X8 (fl_in hκ wd_X8_raisePrices_f26) dX8_raisePrices_47 rfl ?_
    refine j_icmp_ge (tgt := 101) (pc' := 53) hκ dX8_raisePrices_50 (by decide) rfl (fun c => ?_) (fun c => ?_)
    · replace h := h.1 c
      refine j_sub [] rfl ?_
      exact hK101 _  h
    · replace h := h.2 c
      refine j_aload_n (pc' := 54) hκ 0 rfl rfl dX8_raisePrices_53 rfl ?_
      refine jg_7_0 (pc' := 57) hκ iw_X8_raisePrices_X8 (fl_in hκ wd_X8_raisePrices_f36) dX8_raisePrices_54 rfl ?_
      refine jg_3_4 (pc' := 60) hκ iw_X8_raisePrices_X2 (fl_ne hκ 46 rfl) dX8_raisePrices_57 rfl ?_
      refine j_aload_n (pc' := 61) hκ 0 rfl rfl dX8_raisePrices_60 rfl ?_
      refine jg_7_3 (pc' := 64) hκ iw_X8_raisePrices_X8 (fl_in hκ wd_X8_raisePrices_f15) dX8_raisePrices_61 rfl ?_
      refine j_iload_n (pc' := 65) hκ 1 rfl rfl dX8_raisePrices_64 rfl ?_
      refine jx_iald (pc' := 66) hκ (ah_39 g) h.1 dX8_raisePrices_65 rfl ?_
      replace h := h.2
      refine jx_callNi (pc' := 69) hκ (c_LR_lesserOf (dg hκ) h) rfl rfl rfl gX8_raisePrices_X9_lesserOf_n64 13 rfl wd_X8_raisePrices_iX9 wd_X8_raisePrices_s_X9_lesserOf hqS_X9_lesserOf ⟨Nat.le_of_ble_eq_true rfl, Nat.le_of_ble_eq_true rfl⟩ rfl rfl (Nat.le_of_ble_eq_true rfl) dX8_raisePrices_66 rfl (fun r6 X5 h => ?_)
      refine j_dup2 (pc' := 70) hκ rfl rfl dX8_raisePrices_69 rfl ?_
      refine jx_iald (pc' := 71) hκ (ah_23 g) h.1 dX8_raisePrices_70 rfl ?_
      replace h := h.2
      refine j_iconst (pc' := 72) (v := 1) hκ (by decide) dX8_raisePrices_71 rfl ?_
      refine j_iadd (pc' := 73) hκ dX8_raisePrices_72 rfl ?_
      refine jx_iast (pc' := 74) hκ (ah_23 g) h.1 dX8_raisePrices_73 rfl ?_
      replace h := h.2
      refine j_nmX (fun X7 eX7 => ?_)
      replace h := h X7 eX7
      refine j_aload_n (pc' := 75) hκ 0 rfl rfl dX8_raisePrices_74 rfl ?_
      refine jg_7_0 (pc' := 78) hκ iw_X8_raisePrices_X8 (fl_in hκ wd_X8_raisePrices_f36) dX8_raisePrices_75 rfl ?_
      refine jg_3_4 (pc' := 81) hκ iw_X8_raisePrices_X2 (fl_ne hκ 46 rfl) dX8_raisePrices_78 rfl ?_
      refine j_aload_n (pc' := 82) hκ 0 rfl rfl dX8_raisePrices_81 rfl ?_
      refine jg_7_3 (pc' := 85) hκ iw_X8_raisePrices_X8 (fl_in hκ wd_X8_raisePrices_f15) dX8_raisePrices_82 rfl ?_
      refine j_iload_n (pc' := 86) hκ 1 rfl rfl dX8_raisePrices_85 rfl ?_
      refine jx_iald (pc' := 87) hκ (ah_39 g) h.1 dX8_raisePrices_86 rfl ?_
      replace h := h.2
      refine jx_callNi (pc' := 90) hκ (c_LR_greaterOf (dg hκ) h) rfl rfl rfl gX8_raisePrices_X9_greaterOf_n67 14 rfl wd_X8_raisePrices_iX9 wd_X8_raisePrices_s_X9_greaterOf hqS_X9_greaterOf ⟨Nat.le_of_ble_eq_true rfl, Nat.le_of_ble_eq_true rfl⟩ rfl rfl (Nat.le_of_ble_eq_true rfl) dX8_raisePrices_87 rfl (fun r9 X8 h => ?_)
      refine j_dup2 (pc' := 91) hκ rfl rfl dX8_raisePrices_90 rfl ?_
      refine jx_iald (pc' := 92) hκ (ah_23 g) h.1 dX8_raisePrices_91 rfl ?_
      replace h := h.2
      refine j_iconst (pc' := 93) (v := 1) hκ (by decide) dX8_raisePrices_92 rfl ?_
      refine j_iadd (pc' := 94) hκ dX8_raisePrices_93 rfl ?_
      refine jx_iast (pc' := 95) hκ (ah_23 g) h.1 dX8_raisePrices_94 rfl ?_
      replace h := h.2
      refine j_nmX (fun X10 eX10 => ?_)
      replace h := h X10 eX10
      refine j_iinc (pc' := 98) (v := l1 + 1) (lv' := [(1, .int (l1 + 1)), (0, .ref (g.2.1 7))]) hκ 1 rfl rfl (Nat.le_of_ble_eq_true rfl) rfl dX8_raisePrices_95 rfl ?_
      refine j_goto (pc' := 45) hκ (by decide) dX8_raisePrices_98 ?_
      refine j_sub [1, 0] rfl ?_
      exact ih _ _  h
def wp_Tree_raisePrices (X : ST) (post : ST → Prop) : Prop :=
  ∃ n, wp_Tree_raisePrices_2 (fun X4 => ∃ n, wp_Tree_raisePrices_45 (fun X11 => post X11) post n X4 0) post n X 0
set_option maxHeartbeats 4000000 in
set_option maxRecDepth 100000 in
theorem lb_Tree_raisePrices {κ : Cx} {g : Gx} {M : ST} (hκ : CF κ g RX8 cX8_raisePrices wsX8_raisePrices 2 rm_Tree_raisePrices) {post : ST → Prop} (hR : RtxV κ g 2 cX8_raisePrices M post) {X : ST} (h : wp_Tree_raisePrices X post) : Jw κ g 2 X M [(0, .ref (g.2.1 7))] 0 [] := by
  unfold wp_Tree_raisePrices at h
  refine j_iconst (pc' := 1) (v := 0) hκ (by decide) dX8_raisePrices_0 rfl ?_
  refine j_istore_n (pc' := 2) (lv' := [(1, .int 0), (0, .ref (g.2.1 7))]) hκ (Nat.le_of_ble_eq_true rfl) rfl rfl dX8_raisePrices_1 rfl ?_
  obtain ⟨n, h⟩ := h
  refine j_sub [1, 0] rfl ?_
  refine lb_Tree_raisePrices_2 hκ hR ?_ n _ _  h
  intro X4  h
  refine j_iconst (pc' := 44) (v := 0) hκ (by decide) dX8_raisePrices_43 rfl ?_
  refine j_istore_n (pc' := 45) (lv' := [(1, .int 0), (0, .ref (g.2.1 7))]) hκ (Nat.le_of_ble_eq_true rfl) rfl rfl dX8_raisePrices_44 rfl ?_
  obtain ⟨n, h⟩ := h
  refine j_sub [1, 0] rfl ?_
  refine lb_Tree_raisePrices_45 hκ hR ?_ n _ _  h
  intro X11  h
  exact hR _ _ _ dX8_raisePrices_101 h
theorem c_Tree_raisePrices {g : Gx} (hg : Dg g) {X M : ST} {post : ST → Prop} (h : wp_Tree_raisePrices X post) (l : Launch) : Met l yX8_raisePrices wsX8_raisePrices rm_Tree_raisePrices (va_Pc [.ref (g.2.1 7)] (PU g X M)) (va_Qv post (fun Y t => va_P g.1 vwCl (ww g Y M) t.heap) (wA g)) 0 0 (wA g) :=
  met_xv hg (by decide) rfl [.ref (g.2.1 7)] rfl (Nat.le_of_ble_eq_true rfl) (fun κ hκ hR => lb_Tree_raisePrices hκ hR h) l
theorem hqV_X8_raisePrices : yX8_raisePrices.cls = RX8 ∧ yX8_raisePrices.cls ≠ "java/lang/invoke/MethodHandle" ∧ yX8_raisePrices.cls ≠ "java/lang/invoke/VarHandle" ∧ (parseMethodDescriptor yX8_raisePrices.desc).map (fun d => d.parameters.length) = some 0 := by decide +kernel
theorem wd_X8_rankAnew_f22 : Cond.fieldLink RX8 22 "LampRound$Tree" "pairs" "I" ∈ wsX8_rankAnew := List.mem_of_getElem? (i := 1) rfl
theorem iw_X8_rankAnew_X8 : ∀ w ∈ wsX80, w ∈ wsX8_rankAnew := fun _ h => List.mem_cons_of_mem _ (List.mem_append_left _ (List.mem_append_right _ h))
theorem wd_X8_rankAnew_f9 : Cond.fieldLink RX8 9 "LampRound$Tree" "ranked" "[J" ∈ wsX8_rankAnew := List.mem_of_getElem? (i := 2) rfl
theorem wd_X8_rankAnew_iX9 : Cond.initialized RX9 ∈ wsX8_rankAnew := List.mem_of_getElem? (i := 10) rfl
theorem wd_X8_rankAnew_s_X9_lesserOf : Cond.static yX9_lesserOf ∈ wsX8_rankAnew := List.mem_of_getElem? (i := 9) rfl
theorem wd_X8_rankAnew_s_X9_greaterOf : Cond.static yX9_greaterOf ∈ wsX8_rankAnew := List.mem_of_getElem? (i := 12) rfl
abbrev rm_Tree_rankAnew : Room := { frames := 2, cells := 0, slots := 0, locals := 45 }
def wp_Tree_rankAnew_2_s (K42 : ST → Prop) (post : ST → Prop) (rec : ST → Int32 → Prop) (X : ST) (l1 : Int32) : Prop :=
  ((x_Tree_pairs X) ≤ l1 → (K42 X)) ∧ (¬ (x_Tree_pairs X) ≤ l1 → (wp_Tree_pairAt X l1 (fun r2 X1 => wp_LR_lesserOf X1 r2 (fun r4 X3 => wp_Tree_pairAt X3 l1 (fun r6 X5 => wp_LR_greaterOf X5 r6 (fun r8 X7 => wp_Tree_keyOf X7 r4 r8 (fun r10 X9 => vp_in l1 66 ∧ (∀ X11 : ST, X11 = xs_Tree_ranked X9 (vp_updL (x_Tree_ranked X9) l1.toNatClampNeg r10) → rec X11 (l1 + 1)))))))))
def wp_Tree_rankAnew_2 (K42 : ST → Prop) (post : ST → Prop) : Nat → ST → Int32 → Prop
  | 0 => fun _ _ => False
  | n + 1 => wp_Tree_rankAnew_2_s K42 post (wp_Tree_rankAnew_2 K42 post n)
set_option maxHeartbeats 4000000 in
set_option maxRecDepth 100000 in
theorem lb_Tree_rankAnew_2 {κ : Cx} {g : Gx} {M : ST} (hκ : CF κ g RX8 cX8_rankAnew wsX8_rankAnew 2 rm_Tree_rankAnew) {post : ST → Prop} (hR : RtxV κ g 2 cX8_rankAnew M post) {K42 : ST → Prop} (hK42 : ∀ (X : ST), K42 X → Jw κ g 2 X M [(0, .ref (g.2.1 7))] 42 []) : ∀ (n : Nat) (X : ST) (l1 : Int32), wp_Tree_rankAnew_2 K42 post n X l1 → Jw κ g 2 X M [(0, .ref (g.2.1 7)), (1, .int l1)] 2 [] := by
  intro n
  induction n with
  | zero =>
    intro X l1  h
    exact h.elim
  | succ n ih =>
    intro X l1  h
    have h : wp_Tree_rankAnew_2_s K42 post (wp_Tree_rankAnew_2 K42 post n) X l1 := h
    unfold wp_Tree_rankAnew_2_s at h
    refine j_iload_n (pc' := 3) hκ 1 rfl rfl dX8_rankAnew_2 rfl ?_
    refine j_aload_n (pc' := 4) hκ 0 rfl rfl dX8_rankAnew_3 rfl ?_
    refine jg_7_5 (pc' := 7) hκ iw_X8_rankAnew_X8 (fl_in hκ wd_X8_rankAnew_f22) dX8_rankAnew_4 rfl ?_
    refine j_icmp_ge (tgt := 42) (pc' := 10) hκ dX8_rankAnew_7 (by decide) rfl (fun c => ?_) (fun c => ?_)
    · replace h := h.1 c
      refine j_sub [0] rfl ?_
      exact hK42 _  h
    · replace h := h.2 c
      refine j_aload_n (pc' := 11) hκ 0 rfl rfl dX8_rankAnew_10 rfl ?_
      refine jg_7_2 (pc' := 14) hκ iw_X8_rankAnew_X8 (fl_in hκ wd_X8_rankAnew_f9) dX8_rankAnew_11 rfl ?_
      refine j_iload_n (pc' := 15) hκ 1 rfl rfl dX8_rankAnew_14 rfl ?_
      refine j_aload_n (pc' := 16) hκ 0 rfl rfl dX8_rankAnew_15 rfl ?_
      refine j_aload_n (pc' := 17) hκ 0 rfl rfl dX8_rankAnew_16 rfl ?_
      refine j_iload_n (pc' := 18) hκ 1 rfl rfl dX8_rankAnew_17 rfl ?_
      refine jx_callVi (pc' := 21) hκ (c_Tree_pairAt (dg hκ) h) rfl rfl rfl gX8_rankAnew_X8_pairAt hqV_X8_pairAt ⟨Nat.le_of_ble_eq_true rfl, Nat.le_of_ble_eq_true rfl⟩ (wg_7 g _ _) rfl rfl rfl (Nat.le_of_ble_eq_true rfl) dX8_rankAnew_18 rfl (fun r2 X1 h => ?_)
      refine jx_callNi (pc' := 24) hκ (c_LR_lesserOf (dg hκ) h) rfl rfl rfl gX8_rankAnew_X9_lesserOf_n64 13 rfl wd_X8_rankAnew_iX9 wd_X8_rankAnew_s_X9_lesserOf hqS_X9_lesserOf ⟨Nat.le_of_ble_eq_true rfl, Nat.le_of_ble_eq_true rfl⟩ rfl rfl (Nat.le_of_ble_eq_true rfl) dX8_rankAnew_21 rfl (fun r4 X3 h => ?_)
      refine j_aload_n (pc' := 25) hκ 0 rfl rfl dX8_rankAnew_24 rfl ?_
      refine j_iload_n (pc' := 26) hκ 1 rfl rfl dX8_rankAnew_25 rfl ?_
      refine jx_callVi (pc' := 29) hκ (c_Tree_pairAt (dg hκ) h) rfl rfl rfl gX8_rankAnew_X8_pairAt hqV_X8_pairAt ⟨Nat.le_of_ble_eq_true rfl, Nat.le_of_ble_eq_true rfl⟩ (wg_7 g _ _) rfl rfl rfl (Nat.le_of_ble_eq_true rfl) dX8_rankAnew_26 rfl (fun r6 X5 h => ?_)
      refine jx_callNi (pc' := 32) hκ (c_LR_greaterOf (dg hκ) h) rfl rfl rfl gX8_rankAnew_X9_greaterOf_n67 14 rfl wd_X8_rankAnew_iX9 wd_X8_rankAnew_s_X9_greaterOf hqS_X9_greaterOf ⟨Nat.le_of_ble_eq_true rfl, Nat.le_of_ble_eq_true rfl⟩ rfl rfl (Nat.le_of_ble_eq_true rfl) dX8_rankAnew_29 rfl (fun r8 X7 h => ?_)
      refine jx_callVl (pc' := 35) hκ (c_Tree_keyOf (dg hκ) h) rfl rfl rfl gX8_rankAnew_X8_keyOf hqV_X8_keyOf ⟨Nat.le_of_ble_eq_true rfl, Nat.le_of_ble_eq_true rfl⟩ (wg_7 g _ _) rfl rfl rfl (Nat.le_of_ble_eq_true rfl) dX8_rankAnew_32 rfl (fun r10 X9 h => ?_)
      refine jx_last (pc' := 36) hκ (ah_38 g) h.1 dX8_rankAnew_35 rfl ?_
      replace h := h.2
      refine j_nmX (fun X11 eX11 => ?_)
      replace h := h X11 eX11
      refine j_iinc (pc' := 39) (v := l1 + 1) (lv' := [(1, .int (l1 + 1)), (0, .ref (g.2.1 7))]) hκ 1 rfl rfl (Nat.le_of_ble_eq_true rfl) rfl dX8_rankAnew_36 rfl ?_
      refine j_goto (pc' := 2) hκ (by decide) dX8_rankAnew_39 ?_
      refine j_sub [1, 0] rfl ?_
      exact ih _ _  h
def wp_Tree_rankAnew (X : ST) (post : ST → Prop) : Prop :=
  ∃ n, wp_Tree_rankAnew_2 (fun X12 => wp_Tree_sort X12 (fun X13 => post X13)) post n X 0
set_option maxHeartbeats 4000000 in
set_option maxRecDepth 100000 in
theorem lb_Tree_rankAnew {κ : Cx} {g : Gx} {M : ST} (hκ : CF κ g RX8 cX8_rankAnew wsX8_rankAnew 2 rm_Tree_rankAnew) {post : ST → Prop} (hR : RtxV κ g 2 cX8_rankAnew M post) {X : ST} (h : wp_Tree_rankAnew X post) : Jw κ g 2 X M [(0, .ref (g.2.1 7))] 0 [] := by
  unfold wp_Tree_rankAnew at h
  refine j_iconst (pc' := 1) (v := 0) hκ (by decide) dX8_rankAnew_0 rfl ?_
  refine j_istore_n (pc' := 2) (lv' := [(1, .int 0), (0, .ref (g.2.1 7))]) hκ (Nat.le_of_ble_eq_true rfl) rfl rfl dX8_rankAnew_1 rfl ?_
  obtain ⟨n, h⟩ := h
  refine j_sub [1, 0] rfl ?_
  refine lb_Tree_rankAnew_2 hκ hR ?_ n _ _  h
  intro X12  h
  refine j_aload_n (pc' := 43) hκ 0 rfl rfl dX8_rankAnew_42 rfl ?_
  refine jx_callVv (pc' := 46) hκ (c_Tree_sort (dg hκ) h) rfl rfl rfl gX8_rankAnew_X8_sort hqV_X8_sort ⟨Nat.le_of_ble_eq_true rfl, Nat.le_of_ble_eq_true rfl⟩ (wg_7 g _ _) rfl rfl rfl (Nat.le_of_ble_eq_true rfl) dX8_rankAnew_43 rfl (fun X13 h => ?_)
  exact hR _ _ _ dX8_rankAnew_46 h
theorem c_Tree_rankAnew {g : Gx} (hg : Dg g) {X M : ST} {post : ST → Prop} (h : wp_Tree_rankAnew X post) (l : Launch) : Met l yX8_rankAnew wsX8_rankAnew rm_Tree_rankAnew (va_Pc [.ref (g.2.1 7)] (PU g X M)) (va_Qv post (fun Y t => va_P g.1 vwCl (ww g Y M) t.heap) (wA g)) 0 0 (wA g) :=
  met_xv hg (by decide) rfl [.ref (g.2.1 7)] rfl (Nat.le_of_ble_eq_true rfl) (fun κ hκ hR => lb_Tree_rankAnew hκ hR h) l
theorem hqV_X8_rankAnew : yX8_rankAnew.cls = RX8 ∧ yX8_rankAnew.cls ≠ "java/lang/invoke/MethodHandle" ∧ yX8_rankAnew.cls ≠ "java/lang/invoke/VarHandle" ∧ (parseMethodDescriptor yX8_rankAnew.desc).map (fun d => d.parameters.length) = some 0 := by decide +kernel
abbrev rm_LR_climb : Room := { frames := 6, cells := 0, slots := 0, locals := 134 }
def wp_LR_climb_29_s (K75 : ST → Int32 → Prop) (post : Int32 → ST → Prop) (rec : ST → Int32 → Int32 → Prop) (X : ST) (l1 : Int32) (l2 : Int32) : Prop :=
  (l1 ≤ l2 → (K75 X l2)) ∧ (¬ l1 ≤ l2 → (wp_Tree_sumOfCase X (fun r6 X5 => (4611686018427387904 ≤ r6 → (K75 X5 l2)) ∧ (¬ 4611686018427387904 ≤ r6 → (wp_Tree_raisePrices X5 (fun X7 => wp_Tree_rankAnew X7 (fun X9 => wp_Tree_grow X9 (fun X11 => rec X11 l1 (l2 + 1)))))))))
def wp_LR_climb_29 (K75 : ST → Int32 → Prop) (post : Int32 → ST → Prop) : Nat → ST → Int32 → Int32 → Prop
  | 0 => fun _ _ _ => False
  | n + 1 => wp_LR_climb_29_s K75 post (wp_LR_climb_29 K75 post n)
set_option maxHeartbeats 4000000 in
set_option maxRecDepth 100000 in
theorem lb_LR_climb_29 {κ : Cx} {g : Gx} {M : ST} (hκ : CF κ g RX9 cX9_climb wsX9_climb 3 rm_LR_climb) {post : Int32 → ST → Prop} (hR : RtxI κ g 3 cX9_climb M post) {K75 : ST → Int32 → Prop} (hK75 : ∀ (X : ST) (l2 : Int32), K75 X l2 → Jw κ g 3 X M [(2, .int l2)] 75 []) : ∀ (n : Nat) (X : ST) (l1 : Int32) (l2 : Int32), wp_LR_climb_29 K75 post n X l1 l2 → Jw κ g 3 X M [(0, .ref (g.2.1 0)), (1, .int l1), (2, .int l2)] 29 [] := by
  intro n
  induction n with
  | zero =>
    intro X l1 l2  h
    exact h.elim
  | succ n ih =>
    intro X l1 l2  h
    have h : wp_LR_climb_29_s K75 post (wp_LR_climb_29 K75 post n) X l1 l2 := h
    unfold wp_LR_climb_29_s at h
    refine j_iload_n (pc' := 30) hκ 2 rfl rfl dX9_climb_29 rfl ?_
    refine j_iload_n (pc' := 31) hκ 1 rfl rfl dX9_climb_30 rfl ?_
    refine j_icmp_ge (tgt := 75) (pc' := 34) hκ dX9_climb_31 (by decide) rfl (fun c => ?_) (fun c => ?_)
    · replace h := h.1 c
      refine j_sub [2] rfl ?_
      exact hK75 _ _  h
    · replace h := h.2 c
      refine j_aload_n (pc' := 35) hκ 0 rfl rfl dX9_climb_34 rfl ?_
      refine jg_0_6 (pc' := 38) hκ iw_X9_climb_X9 (fl_in hκ wd_X9_climb_f64) dX9_climb_35 rfl ?_
      refine jx_callVl (pc' := 41) hκ (c_Tree_sumOfCase (dg hκ) h) rfl rfl rfl gX9_climb_X8_sumOfCase hqV_X8_sumOfCase ⟨Nat.le_of_ble_eq_true rfl, Nat.le_of_ble_eq_true rfl⟩ (wg_7 g _ _) rfl rfl rfl (Nat.le_of_ble_eq_true rfl) dX9_climb_38 rfl (fun r6 X5 h => ?_)
      refine j_ldc2_w (pc' := 44) hκ wd_X9_climb_c298 dX9_climb_41 rfl ?_
      refine j_lc_ge (tgt := 75) (pc1 := 45) (pc' := 48) hκ dX9_climb_44 rfl dX9_climb_45 (by decide) rfl (fun c => ?_) (fun c => ?_)
      · replace h := h.1 c
        refine j_sub [2] rfl ?_
        exact hK75 _ _  h
      · replace h := h.2 c
        refine j_aload_n (pc' := 49) hκ 0 rfl rfl dX9_climb_48 rfl ?_
        refine jg_0_6 (pc' := 52) hκ iw_X9_climb_X9 (fl_in hκ wd_X9_climb_f64) dX9_climb_49 rfl ?_
        refine jx_callVv (pc' := 55) hκ (c_Tree_raisePrices (dg hκ) h) rfl rfl rfl gX9_climb_X8_raisePrices hqV_X8_raisePrices ⟨Nat.le_of_ble_eq_true rfl, Nat.le_of_ble_eq_true rfl⟩ (wg_7 g _ _) rfl rfl rfl (Nat.le_of_ble_eq_true rfl) dX9_climb_52 rfl (fun X7 h => ?_)
        refine j_aload_n (pc' := 56) hκ 0 rfl rfl dX9_climb_55 rfl ?_
        refine jg_0_6 (pc' := 59) hκ iw_X9_climb_X9 (fl_in hκ wd_X9_climb_f64) dX9_climb_56 rfl ?_
        refine jx_callVv (pc' := 62) hκ (c_Tree_rankAnew (dg hκ) h) rfl rfl rfl gX9_climb_X8_rankAnew hqV_X8_rankAnew ⟨Nat.le_of_ble_eq_true rfl, Nat.le_of_ble_eq_true rfl⟩ (wg_7 g _ _) rfl rfl rfl (Nat.le_of_ble_eq_true rfl) dX9_climb_59 rfl (fun X9 h => ?_)
        refine j_aload_n (pc' := 63) hκ 0 rfl rfl dX9_climb_62 rfl ?_
        refine jg_0_6 (pc' := 66) hκ iw_X9_climb_X9 (fl_in hκ wd_X9_climb_f64) dX9_climb_63 rfl ?_
        refine jx_callVv (pc' := 69) hκ (c_Tree_grow (dg hκ) h) rfl rfl rfl gX9_climb_X8_grow hqV_X8_grow ⟨Nat.le_of_ble_eq_true rfl, Nat.le_of_ble_eq_true rfl⟩ (wg_7 g _ _) rfl rfl rfl (Nat.le_of_ble_eq_true rfl) dX9_climb_66 rfl (fun X11 h => ?_)
        refine j_iinc (pc' := 72) (v := l2 + 1) (lv' := [(2, .int (l2 + 1)), (0, .ref (g.2.1 0)), (1, .int l1)]) hκ 2 rfl rfl (Nat.le_of_ble_eq_true rfl) rfl dX9_climb_69 rfl ?_
        refine j_goto (pc' := 29) hκ (by decide) dX9_climb_72 ?_
        refine j_sub [1, 2, 0] rfl ?_
        exact ih _ _ _  h
def wp_LR_climb (X : ST) (p1 : Int32) (post : Int32 → ST → Prop) : Prop :=
  (p1 < 1 → (post (-1) X)) ∧ (¬ p1 < 1 → ((p1 ≤ 100 → (wp_LR_isTooSmall X (fun r2 X1 => (r2 = 0 → (wp_LR_growEmptyCase X1 (fun X3 => ∃ n, wp_LR_climb_29 (fun X13 v14 => post v14 X13) post n X3 p1 0))) ∧ (¬ r2 = 0 → (post (-4) X1))))) ∧ (¬ p1 ≤ 100 → (post (-1) X))))
set_option maxHeartbeats 4000000 in
set_option maxRecDepth 100000 in
theorem lb_LR_climb {κ : Cx} {g : Gx} {M : ST} (hκ : CF κ g RX9 cX9_climb wsX9_climb 3 rm_LR_climb) {post : Int32 → ST → Prop} (hR : RtxI κ g 3 cX9_climb M post) {X : ST} {p1 : Int32} (h : wp_LR_climb X p1 post) : Jw κ g 3 X M [(0, .ref (g.2.1 0)), (1, .int p1)] 0 [] := by
  unfold wp_LR_climb at h
  refine j_iload_n (pc' := 1) hκ 1 rfl rfl dX9_climb_0 rfl ?_
  refine j_iconst (pc' := 2) (v := 1) hκ (by decide) dX9_climb_1 rfl ?_
  refine j_icmp_lt (tgt := 11) (pc' := 5) hκ dX9_climb_2 (by decide) rfl (fun c => ?_) (fun c => ?_)
  · replace h := h.1 c
    refine j_iconst (pc' := 12) (v := (-1)) hκ (by decide) dX9_climb_11 rfl ?_
    exact hR _ _ _ _ dX9_climb_12 h
  · replace h := h.2 c
    refine j_iload_n (pc' := 6) hκ 1 rfl rfl dX9_climb_5 rfl ?_
    refine j_bipush (pc' := 8) (v := 100) hκ (by decide) dX9_climb_6 rfl ?_
    refine j_icmp_le (tgt := 13) (pc' := 11) hκ dX9_climb_8 (by decide) rfl (fun c => ?_) (fun c => ?_)
    · replace h := h.1 c
      refine j_aload_n (pc' := 14) hκ 0 rfl rfl dX9_climb_13 rfl ?_
      refine jx_callVi (pc' := 17) hκ (c_LR_isTooSmall (dg hκ) h) rfl rfl rfl gX9_climb_X9_isTooSmall hqV_X9_isTooSmall ⟨Nat.le_of_ble_eq_true rfl, Nat.le_of_ble_eq_true rfl⟩ (wg_0 g _ _) rfl rfl rfl (Nat.le_of_ble_eq_true rfl) dX9_climb_14 rfl (fun r2 X1 h => ?_)
      refine j_if_eq (tgt := 23) (pc' := 20) hκ dX9_climb_17 (by decide) rfl (fun c => ?_) (fun c => ?_)
      · replace h := h.1 c
        refine j_aload_n (pc' := 24) hκ 0 rfl rfl dX9_climb_23 rfl ?_
        refine jx_callVv (pc' := 27) hκ (c_LR_growEmptyCase (dg hκ) h) rfl rfl rfl gX9_climb_X9_growEmptyCase hqV_X9_growEmptyCase ⟨Nat.le_of_ble_eq_true rfl, Nat.le_of_ble_eq_true rfl⟩ (wg_0 g _ _) rfl rfl rfl (Nat.le_of_ble_eq_true rfl) dX9_climb_24 rfl (fun X3 h => ?_)
        refine j_iconst (pc' := 28) (v := 0) hκ (by decide) dX9_climb_27 rfl ?_
        refine j_istore_n (pc' := 29) (lv' := [(2, .int 0), (0, .ref (g.2.1 0)), (1, .int p1)]) hκ (Nat.le_of_ble_eq_true rfl) rfl rfl dX9_climb_28 rfl ?_
        obtain ⟨n, h⟩ := h
        refine j_sub [1, 2, 0] rfl ?_
        refine lb_LR_climb_29 hκ hR ?_ n _ _ _  h
        intro X13 v14  h
        refine j_iload_n (pc' := 76) hκ 0 rfl rfl dX9_climb_75 rfl ?_
        exact hR _ _ _ _ dX9_climb_76 h
      · replace h := h.2 c
        refine j_bipush (pc' := 22) (v := (-4)) hκ (by decide) dX9_climb_20 rfl ?_
        exact hR _ _ _ _ dX9_climb_22 h
    · replace h := h.2 c
      refine j_iconst (pc' := 12) (v := (-1)) hκ (by decide) dX9_climb_11 rfl ?_
      exact hR _ _ _ _ dX9_climb_12 h
theorem c_LR_climb {g : Gx} (hg : Dg g) {X M : ST} {p1 : Int32} {post : Int32 → ST → Prop} (h : wp_LR_climb X p1 post) (l : Launch) : Met l yX9_climb wsX9_climb rm_LR_climb (va_Pc [.ref (g.2.1 0), .int p1] (PU g X M)) (va_Qi post (fun Y t => va_P g.1 vwCl (ww g Y M) t.heap) (wA g)) 0 0 (wA g) :=
  met_xi hg (by decide) rfl [.ref (g.2.1 0), .int p1] rfl (Nat.le_of_ble_eq_true rfl) (fun κ hκ hR => lb_LR_climb hκ hR h) l
theorem wd_X9_bound_f64 : Cond.fieldLink RX9 64 "LampRound" "tree" "LLampRound$Tree;" ∈ wsX9_bound := List.mem_of_getElem? (i := 2) rfl
theorem iw_X9_bound_X9 : ∀ w ∈ wsX90, w ∈ wsX9_bound := fun _ h => List.mem_cons_of_mem _ (List.mem_append_left _ (List.mem_append_left _ (List.mem_append_left _ (List.mem_append_left _ (List.mem_append_right _ h)))))
theorem wd_X9_bound_c309 : Cond.constantLong RX9 309 (-4611686018427387904) ∈ wsX9_bound := List.mem_of_getElem? (i := 1) rfl
abbrev rm_LR_bound : Room := { frames := 6, cells := 0, slots := 0, locals := 134 }
def wp_LR_bound (X : ST) (post : Int64 → ST → Prop) : Prop :=
  wp_LR_isTooSmall X (fun r2 X1 => (r2 = 0 → (wp_LR_growEmptyCase X1 (fun X3 => wp_Tree_sumOfCase X3 (fun r6 X5 => post r6 X5)))) ∧ (¬ r2 = 0 → (post (-4611686018427387904) X1)))
set_option maxHeartbeats 4000000 in
set_option maxRecDepth 100000 in
theorem lb_LR_bound {κ : Cx} {g : Gx} {M : ST} (hκ : CF κ g RX9 cX9_bound wsX9_bound 1 rm_LR_bound) {post : Int64 → ST → Prop} (hR : RtxL κ g 1 cX9_bound M post) {X : ST} (h : wp_LR_bound X post) : Jw κ g 1 X M [(0, .ref (g.2.1 0))] 0 [] := by
  unfold wp_LR_bound at h
  refine j_aload_n (pc' := 1) hκ 0 rfl rfl dX9_bound_0 rfl ?_
  refine jx_callVi (pc' := 4) hκ (c_LR_isTooSmall (dg hκ) h) rfl rfl rfl gX9_bound_X9_isTooSmall hqV_X9_isTooSmall ⟨Nat.le_of_ble_eq_true rfl, Nat.le_of_ble_eq_true rfl⟩ (wg_0 g _ _) rfl rfl rfl (Nat.le_of_ble_eq_true rfl) dX9_bound_1 rfl (fun r2 X1 h => ?_)
  refine j_if_eq (tgt := 11) (pc' := 7) hκ dX9_bound_4 (by decide) rfl (fun c => ?_) (fun c => ?_)
  · replace h := h.1 c
    refine j_aload_n (pc' := 12) hκ 0 rfl rfl dX9_bound_11 rfl ?_
    refine jx_callVv (pc' := 15) hκ (c_LR_growEmptyCase (dg hκ) h) rfl rfl rfl gX9_bound_X9_growEmptyCase hqV_X9_growEmptyCase ⟨Nat.le_of_ble_eq_true rfl, Nat.le_of_ble_eq_true rfl⟩ (wg_0 g _ _) rfl rfl rfl (Nat.le_of_ble_eq_true rfl) dX9_bound_12 rfl (fun X3 h => ?_)
    refine j_aload_n (pc' := 16) hκ 0 rfl rfl dX9_bound_15 rfl ?_
    refine jg_0_6 (pc' := 19) hκ iw_X9_bound_X9 (fl_in hκ wd_X9_bound_f64) dX9_bound_16 rfl ?_
    refine jx_callVl (pc' := 22) hκ (c_Tree_sumOfCase (dg hκ) h) rfl rfl rfl gX9_bound_X8_sumOfCase hqV_X8_sumOfCase ⟨Nat.le_of_ble_eq_true rfl, Nat.le_of_ble_eq_true rfl⟩ (wg_7 g _ _) rfl rfl rfl (Nat.le_of_ble_eq_true rfl) dX9_bound_19 rfl (fun r6 X5 h => ?_)
    exact hR _ _ _ _ dX9_bound_22 h
  · replace h := h.2 c
    refine j_ldc2_w (pc' := 10) hκ wd_X9_bound_c309 dX9_bound_7 rfl ?_
    exact hR _ _ _ _ dX9_bound_10 h
theorem c_LR_bound {g : Gx} (hg : Dg g) {X M : ST} {post : Int64 → ST → Prop} (h : wp_LR_bound X post) (l : Launch) : Met l yX9_bound wsX9_bound rm_LR_bound (va_Pc [.ref (g.2.1 0)] (PU g X M)) (va_Ql post (fun Y t => va_P g.1 vwCl (ww g Y M) t.heap) (wA g)) 0 0 (wA g) :=
  met_xl hg (by decide) rfl [.ref (g.2.1 0)] rfl (Nat.le_of_ble_eq_true rfl) (fun κ hκ hR => lb_LR_bound hκ hR h) l
theorem wd_X9_taken_f64 : Cond.fieldLink RX9 64 "LampRound" "tree" "LLampRound$Tree;" ∈ wsX9_taken := List.mem_of_getElem? (i := 1) rfl
theorem iw_X9_taken_X9 : ∀ w ∈ wsX90, w ∈ wsX9_taken := fun _ h => List.mem_cons_of_mem _ (List.mem_append_left _ (List.mem_append_left _ (List.mem_append_left _ (List.mem_append_left _ (List.mem_append_right _ h)))))
theorem iw_X9_taken_X8 : ∀ w ∈ wsX80, w ∈ wsX9_taken := fun _ h => List.mem_cons_of_mem _ (List.mem_append_left _ (List.mem_append_left _ (List.mem_append_left _ (List.mem_append_right _ h))))
abbrev rm_LR_taken : Room := { frames := 6, cells := 0, slots := 0, locals := 134 }
def wp_LR_taken (X : ST) (p1 : Int32) (post : Int32 → ST → Prop) : Prop :=
  wp_LR_isTooSmall X (fun r2 X1 => (r2 = 0 → (wp_LR_growEmptyCase X1 (fun X3 => (p1 < 0 → (post (-1) X3)) ∧ (¬ p1 < 0 → (((x_Tree_takenCount X3) ≤ p1 → (post (-1) X3)) ∧ (¬ (x_Tree_takenCount X3) ≤ p1 → (vp_in p1 12 ∧ (post (x_Tree_takenPairs X3 p1.toNatClampNeg) X3)))))))) ∧ (¬ r2 = 0 → (post (-1) X1)))
set_option maxHeartbeats 4000000 in
set_option maxRecDepth 100000 in
theorem lb_LR_taken {κ : Cx} {g : Gx} {M : ST} (hκ : CF κ g RX9 cX9_taken wsX9_taken 2 rm_LR_taken) {post : Int32 → ST → Prop} (hR : RtxI κ g 2 cX9_taken M post) {X : ST} {p1 : Int32} (h : wp_LR_taken X p1 post) : Jw κ g 2 X M [(0, .ref (g.2.1 0)), (1, .int p1)] 0 [] := by
  unfold wp_LR_taken at h
  refine j_aload_n (pc' := 1) hκ 0 rfl rfl dX9_taken_0 rfl ?_
  refine jx_callVi (pc' := 4) hκ (c_LR_isTooSmall (dg hκ) h) rfl rfl rfl gX9_taken_X9_isTooSmall hqV_X9_isTooSmall ⟨Nat.le_of_ble_eq_true rfl, Nat.le_of_ble_eq_true rfl⟩ (wg_0 g _ _) rfl rfl rfl (Nat.le_of_ble_eq_true rfl) dX9_taken_1 rfl (fun r2 X1 h => ?_)
  refine j_if_eq (tgt := 9) (pc' := 7) hκ dX9_taken_4 (by decide) rfl (fun c => ?_) (fun c => ?_)
  · replace h := h.1 c
    refine j_aload_n (pc' := 10) hκ 0 rfl rfl dX9_taken_9 rfl ?_
    refine jx_callVv (pc' := 13) hκ (c_LR_growEmptyCase (dg hκ) h) rfl rfl rfl gX9_taken_X9_growEmptyCase hqV_X9_growEmptyCase ⟨Nat.le_of_ble_eq_true rfl, Nat.le_of_ble_eq_true rfl⟩ (wg_0 g _ _) rfl rfl rfl (Nat.le_of_ble_eq_true rfl) dX9_taken_10 rfl (fun X3 h => ?_)
    refine j_iload_n (pc' := 14) hκ 1 rfl rfl dX9_taken_13 rfl ?_
    refine j_if_lt (tgt := 40) (pc' := 17) hκ dX9_taken_14 (by decide) rfl (fun c => ?_) (fun c => ?_)
    · replace h := h.1 c
      refine j_iconst (pc' := 41) (v := (-1)) hκ (by decide) dX9_taken_40 rfl ?_
      exact hR _ _ _ _ dX9_taken_41 h
    · replace h := h.2 c
      refine j_iload_n (pc' := 18) hκ 1 rfl rfl dX9_taken_17 rfl ?_
      refine j_aload_n (pc' := 19) hκ 0 rfl rfl dX9_taken_18 rfl ?_
      refine jg_0_6 (pc' := 22) hκ iw_X9_taken_X9 (fl_in hκ wd_X9_taken_f64) dX9_taken_19 rfl ?_
      refine jg_7_6 (pc' := 25) hκ iw_X9_taken_X8 (fl_ne hκ 23 rfl) dX9_taken_22 rfl ?_
      refine j_icmp_ge (tgt := 40) (pc' := 28) hκ dX9_taken_25 (by decide) rfl (fun c => ?_) (fun c => ?_)
      · replace h := h.1 c
        refine j_iconst (pc' := 41) (v := (-1)) hκ (by decide) dX9_taken_40 rfl ?_
        exact hR _ _ _ _ dX9_taken_41 h
      · replace h := h.2 c
        refine j_aload_n (pc' := 29) hκ 0 rfl rfl dX9_taken_28 rfl ?_
        refine jg_0_6 (pc' := 32) hκ iw_X9_taken_X9 (fl_in hκ wd_X9_taken_f64) dX9_taken_29 rfl ?_
        refine jg_7_3 (pc' := 35) hκ iw_X9_taken_X8 (fl_ne hκ 24 rfl) dX9_taken_32 rfl ?_
        refine j_iload_n (pc' := 36) hκ 1 rfl rfl dX9_taken_35 rfl ?_
        refine jx_iald (pc' := 37) hκ (ah_39 g) h.1 dX9_taken_36 rfl ?_
        replace h := h.2
        refine j_goto (pc' := 41) hκ (by decide) dX9_taken_37 ?_
        exact hR _ _ _ _ dX9_taken_41 h
  · replace h := h.2 c
    refine j_iconst (pc' := 8) (v := (-1)) hκ (by decide) dX9_taken_7 rfl ?_
    exact hR _ _ _ _ dX9_taken_8 h
theorem c_LR_taken {g : Gx} (hg : Dg g) {X M : ST} {p1 : Int32} {post : Int32 → ST → Prop} (h : wp_LR_taken X p1 post) (l : Launch) : Met l yX9_taken wsX9_taken rm_LR_taken (va_Pc [.ref (g.2.1 0), .int p1] (PU g X M)) (va_Qi post (fun Y t => va_P g.1 vwCl (ww g Y M) t.heap) (wA g)) 0 0 (wA g) :=
  met_xi hg (by decide) rfl [.ref (g.2.1 0), .int p1] rfl (Nat.le_of_ble_eq_true rfl) (fun κ hκ hR => lb_LR_taken hκ hR h) l
theorem wd_X9_prove_f73 : Cond.fieldLink RX9 73 "LampRound" "judge" "LLampRound$Judge;" ∈ wsX9_prove := List.mem_of_getElem? (i := 1) rfl
theorem iw_X9_prove_X9 : ∀ w ∈ wsX90, w ∈ wsX9_prove := fun _ h => List.mem_cons_of_mem _ (List.mem_append_left _ (List.mem_append_left _ (List.mem_append_left _ (List.mem_append_left _ (List.mem_append_left _ (List.mem_append_left _ (List.mem_append_right _ h)))))))
theorem wd_X9_prove_f84 : Cond.fieldLink RX9 84 "LampRound" "draft" "LLampRound$Lines;" ∈ wsX9_prove := List.mem_of_getElem? (i := 2) rfl
theorem iw_X1_write_X3 : ∀ w ∈ wsX30, w ∈ wsX1_write := fun _ h => List.mem_cons_of_mem _ (List.mem_append_left _ (List.mem_append_left _ (List.mem_append_left _ (List.mem_append_left _ (List.mem_append_right _ h)))))
theorem wd_X1_write_f15 : Cond.fieldLink RX1 15 "LampRound$Judge" "present" "LLampRound$Case;" ∈ wsX1_write := List.mem_of_getElem? (i := 1) rfl
theorem iw_X1_write_X1 : ∀ w ∈ wsX10, w ∈ wsX1_write := fun _ h => List.mem_cons_of_mem _ (List.mem_append_left _ (List.mem_append_left _ (List.mem_append_left _ (List.mem_append_right _ h))))
theorem iw_X1_write_X0 : ∀ w ∈ wsX00, w ∈ wsX1_write := fun _ h => List.mem_cons_of_mem _ (List.mem_append_left _ (List.mem_append_left _ (List.mem_append_right _ h)))
theorem wd_X1_writeTwins_f9 : Cond.fieldLink RX1 9 "LampRound$Judge" "lamps" "LLampRound$Lamps;" ∈ wsX1_writeTwins := List.mem_of_getElem? (i := 1) rfl
theorem iw_X1_writeTwins_X1 : ∀ w ∈ wsX10, w ∈ wsX1_writeTwins := fun _ h => List.mem_cons_of_mem _ (List.mem_append_left _ (List.mem_append_left _ (List.mem_append_left _ (List.mem_append_right _ h))))
theorem iw_X1_writeTwins_X2 : ∀ w ∈ wsX20, w ∈ wsX1_writeTwins := fun _ h => List.mem_cons_of_mem _ (List.mem_append_left _ (List.mem_append_left _ (List.mem_append_right _ h)))
theorem wd_X1_partedTwins_f9 : Cond.fieldLink RX1 9 "LampRound$Judge" "lamps" "LLampRound$Lamps;" ∈ wsX1_partedTwins := List.mem_of_getElem? (i := 1) rfl
theorem iw_X1_partedTwins_X1 : ∀ w ∈ wsX10, w ∈ wsX1_partedTwins := fun _ h => List.mem_cons_of_mem _ (List.mem_append_left _ (List.mem_append_left _ (List.mem_append_right _ h)))
theorem iw_X1_partedTwins_X2 : ∀ w ∈ wsX20, w ∈ wsX1_partedTwins := fun _ h => List.mem_cons_of_mem _ (List.mem_append_left _ (List.mem_append_right _ h))
theorem wd_X1_partedTwins_f15 : Cond.fieldLink RX1 15 "LampRound$Judge" "present" "LLampRound$Case;" ∈ wsX1_partedTwins := List.mem_of_getElem? (i := 2) rfl
theorem iw_X1_partedTwins_X0 : ∀ w ∈ wsX00, w ∈ wsX1_partedTwins := fun _ h => List.mem_cons_of_mem _ (List.mem_append_right _ h)
abbrev rm_Judge_partedTwins : Room := { frames := 0, cells := 0, slots := 0, locals := 0 }
def wp_Judge_partedTwins (X : ST) (p1 : Int32) (post : Int32 → ST → Prop) : Prop :=
  vp_in p1 12 ∧ (vp_in p1 12 ∧ (post ((x_Lamps_needs X p1.toNatClampNeg) &&& (x_Case_parted X p1.toNatClampNeg)) X))
set_option maxHeartbeats 4000000 in
set_option maxRecDepth 100000 in
theorem lb_Judge_partedTwins {κ : Cx} {g : Gx} {M : ST} (hκ : CF κ g RX1 cX1_partedTwins wsX1_partedTwins 2 rm_Judge_partedTwins) {post : Int32 → ST → Prop} (hR : RtxI κ g 2 cX1_partedTwins M post) {X : ST} {p1 : Int32} (h : wp_Judge_partedTwins X p1 post) : Jw κ g 2 X M [(0, .ref (g.2.1 8)), (1, .int p1)] 0 [] := by
  unfold wp_Judge_partedTwins at h
  refine j_aload_n (pc' := 1) hκ 0 rfl rfl dX1_partedTwins_0 rfl ?_
  refine jg_8_0 (pc' := 4) hκ iw_X1_partedTwins_X1 (fl_in hκ wd_X1_partedTwins_f9) dX1_partedTwins_1 rfl ?_
  refine jg_3_6 (pc' := 7) hκ iw_X1_partedTwins_X2 (fl_ne hκ 34 rfl) dX1_partedTwins_4 rfl ?_
  refine j_iload_n (pc' := 8) hκ 1 rfl rfl dX1_partedTwins_7 rfl ?_
  refine jx_iald (pc' := 9) hκ (ah_25 g) h.1 dX1_partedTwins_8 rfl ?_
  replace h := h.2
  refine j_aload_n (pc' := 10) hκ 0 rfl rfl dX1_partedTwins_9 rfl ?_
  refine jg_8_1 (pc' := 13) hκ iw_X1_partedTwins_X1 (fl_in hκ wd_X1_partedTwins_f15) dX1_partedTwins_10 rfl ?_
  refine jg_6_1 (pc' := 16) hκ iw_X1_partedTwins_X0 (fl_ne hκ 35 rfl) dX1_partedTwins_13 rfl ?_
  refine j_iload_n (pc' := 17) hκ 1 rfl rfl dX1_partedTwins_16 rfl ?_
  refine jx_iald (pc' := 18) hκ (ah_35 g) h.1 dX1_partedTwins_17 rfl ?_
  replace h := h.2
  refine j_iand (pc' := 19) hκ dX1_partedTwins_18 rfl ?_
  exact hR _ _ _ _ dX1_partedTwins_19 h
theorem c_Judge_partedTwins {g : Gx} (hg : Dg g) {X M : ST} {p1 : Int32} {post : Int32 → ST → Prop} (h : wp_Judge_partedTwins X p1 post) (l : Launch) : Met l yX1_partedTwins wsX1_partedTwins rm_Judge_partedTwins (va_Pc [.ref (g.2.1 8), .int p1] (PU g X M)) (va_Qi post (fun Y t => va_P g.1 vwCl (ww g Y M) t.heap) (wA g)) 0 0 (wA g) :=
  met_xi hg (by decide) rfl [.ref (g.2.1 8), .int p1] rfl (Nat.le_of_ble_eq_true rfl) (fun κ hκ hR => lb_Judge_partedTwins hκ hR h) l
theorem hqV_X1_partedTwins : yX1_partedTwins.cls = RX1 ∧ yX1_partedTwins.cls ≠ "java/lang/invoke/MethodHandle" ∧ yX1_partedTwins.cls ≠ "java/lang/invoke/VarHandle" ∧ (parseMethodDescriptor yX1_partedTwins.desc).map (fun d => d.parameters.length) = some 1 := by decide +kernel
theorem wd_X1_writeTwins_iX9 : Cond.initialized RX9 ∈ wsX1_writeTwins := List.mem_of_getElem? (i := 9) rfl
theorem wd_X1_writeTwins_s_X9_isIn : Cond.static yX9_isIn ∈ wsX1_writeTwins := List.mem_of_getElem? (i := 8) rfl
theorem wd_X3_append_f21 : Cond.fieldLink RX3 21 "LampRound$Lines" "count" "I" ∈ wsX3_append := List.mem_of_getElem? (i := 1) rfl
theorem iw_X3_append_X3 : ∀ w ∈ wsX30, w ∈ wsX3_append := fun _ h => List.mem_cons_of_mem _ (List.mem_append_right _ h)
theorem wd_X3_write_f9 : Cond.fieldLink RX3 9 "LampRound$Lines" "ops" "[I" ∈ wsX3_write := List.mem_of_getElem? (i := 1) rfl
theorem iw_X3_write_X3 : ∀ w ∈ wsX30, w ∈ wsX3_write := fun _ h => List.mem_cons_of_mem _ (List.mem_append_right _ h)
theorem wd_X3_write_f15 : Cond.fieldLink RX3 15 "LampRound$Lines" "as" "[I" ∈ wsX3_write := List.mem_of_getElem? (i := 2) rfl
theorem wd_X3_write_f18 : Cond.fieldLink RX3 18 "LampRound$Lines" "bs" "[I" ∈ wsX3_write := List.mem_of_getElem? (i := 3) rfl
abbrev rm_draft_write : Room := { frames := 0, cells := 0, slots := 0, locals := 0 }
def wp_draft_write (X : ST) (p1 : Int32) (p2 : Int32) (p3 : Int32) (p4 : Int32) (post : ST → Prop) : Prop :=
  vp_in p1 400 ∧ (∀ X1 : ST, X1 = xs_draft_ops X (upd (x_draft_ops X) p1.toNatClampNeg p2) → vp_in p1 400 ∧ (∀ X2 : ST, X2 = xs_draft_as X1 (upd (x_draft_as X1) p1.toNatClampNeg p3) → vp_in p1 400 ∧ (∀ X3 : ST, X3 = xs_draft_bs X2 (upd (x_draft_bs X2) p1.toNatClampNeg p4) → post X3)))
set_option maxHeartbeats 4000000 in
set_option maxRecDepth 100000 in
theorem lb_draft_write {κ : Cx} {g : Gx} {M : ST} (hκ : CF κ g RX3 cX3_write wsX3_write 5 rm_draft_write) {post : ST → Prop} (hR : RtxV κ g 5 cX3_write M post) {X : ST} {p1 : Int32} {p2 : Int32} {p3 : Int32} {p4 : Int32} (h : wp_draft_write X p1 p2 p3 p4 post) : Jw κ g 5 X M [(0, .ref (g.2.1 10)), (1, .int p1), (2, .int p2), (3, .int p3), (4, .int p4)] 0 [] := by
  unfold wp_draft_write at h
  refine j_aload_n (pc' := 1) hκ 0 rfl rfl dX3_write_0 rfl ?_
  refine jg_10_0 (pc' := 4) hκ iw_X3_write_X3 (fl_in hκ wd_X3_write_f9) dX3_write_1 rfl ?_
  refine j_iload_n (pc' := 5) hκ 1 rfl rfl dX3_write_4 rfl ?_
  refine j_iload_n (pc' := 6) hκ 2 rfl rfl dX3_write_5 rfl ?_
  refine jx_iast (pc' := 7) hκ (ah_44 g) h.1 dX3_write_6 rfl ?_
  replace h := h.2
  refine j_nmX (fun X1 eX1 => ?_)
  replace h := h X1 eX1
  refine j_aload_n (pc' := 8) hκ 0 rfl rfl dX3_write_7 rfl ?_
  refine jg_10_1 (pc' := 11) hκ iw_X3_write_X3 (fl_in hκ wd_X3_write_f15) dX3_write_8 rfl ?_
  refine j_iload_n (pc' := 12) hκ 1 rfl rfl dX3_write_11 rfl ?_
  refine j_iload_n (pc' := 13) hκ 3 rfl rfl dX3_write_12 rfl ?_
  refine jx_iast (pc' := 14) hκ (ah_45 g) h.1 dX3_write_13 rfl ?_
  replace h := h.2
  refine j_nmX (fun X2 eX2 => ?_)
  replace h := h X2 eX2
  refine j_aload_n (pc' := 15) hκ 0 rfl rfl dX3_write_14 rfl ?_
  refine jg_10_2 (pc' := 18) hκ iw_X3_write_X3 (fl_in hκ wd_X3_write_f18) dX3_write_15 rfl ?_
  refine j_iload_n (pc' := 19) hκ 1 rfl rfl dX3_write_18 rfl ?_
  refine j_iload (pc' := 21) hκ 4 rfl dX3_write_19 rfl ?_
  refine jx_iast (pc' := 22) hκ (ah_46 g) h.1 dX3_write_21 rfl ?_
  replace h := h.2
  refine j_nmX (fun X3 eX3 => ?_)
  replace h := h X3 eX3
  exact hR _ _ _ dX3_write_22 h
theorem c_draft_write {g : Gx} (hg : Dg g) {X M : ST} {p1 : Int32} {p2 : Int32} {p3 : Int32} {p4 : Int32} {post : ST → Prop} (h : wp_draft_write X p1 p2 p3 p4 post) (l : Launch) : Met l yX3_write wsX3_write rm_draft_write (va_Pc [.ref (g.2.1 10), .int p1, .int p2, .int p3, .int p4] (PU g X M)) (va_Qv post (fun Y t => va_P g.1 vwCl (ww g Y M) t.heap) (wA g)) 0 0 (wA g) :=
  met_xv hg (by decide) rfl [.ref (g.2.1 10), .int p1, .int p2, .int p3, .int p4] rfl (Nat.le_of_ble_eq_true rfl) (fun κ hκ hR => lb_draft_write hκ hR h) l
theorem hqV_X3_write : yX3_write.cls = RX3 ∧ yX3_write.cls ≠ "java/lang/invoke/MethodHandle" ∧ yX3_write.cls ≠ "java/lang/invoke/VarHandle" ∧ (parseMethodDescriptor yX3_write.desc).map (fun d => d.parameters.length) = some 4 := by decide +kernel
abbrev rm_draft_append : Room := { frames := 1, cells := 0, slots := 0, locals := 24 }
def wp_draft_append (X : ST) (p1 : Int32) (p2 : Int32) (p3 : Int32) (post : ST → Prop) : Prop :=
  (400 ≤ (x_draft_count X) → (post X)) ∧ (¬ 400 ≤ (x_draft_count X) → (wp_draft_write X (x_draft_count X) p1 p2 p3 (fun X1 => ∀ X3 : ST, X3 = xs_draft_count X1 ((x_draft_count X1) + 1) → post X3)))
set_option maxHeartbeats 4000000 in
set_option maxRecDepth 100000 in
theorem lb_draft_append {κ : Cx} {g : Gx} {M : ST} (hκ : CF κ g RX3 cX3_append wsX3_append 4 rm_draft_append) {post : ST → Prop} (hR : RtxV κ g 4 cX3_append M post) {X : ST} {p1 : Int32} {p2 : Int32} {p3 : Int32} (h : wp_draft_append X p1 p2 p3 post) : Jw κ g 4 X M [(0, .ref (g.2.1 10)), (1, .int p1), (2, .int p2), (3, .int p3)] 0 [] := by
  unfold wp_draft_append at h
  refine j_aload_n (pc' := 1) hκ 0 rfl rfl dX3_append_0 rfl ?_
  refine jg_10_3 (pc' := 4) hκ iw_X3_append_X3 (fl_in hκ wd_X3_append_f21) dX3_append_1 rfl ?_
  refine j_sipush (pc' := 7) (v := 400) hκ (by decide) dX3_append_4 rfl ?_
  refine j_icmp_ge (tgt := 31) (pc' := 10) hκ dX3_append_7 (by decide) rfl (fun c => ?_) (fun c => ?_)
  · replace h := h.1 c
    exact hR _ _ _ dX3_append_31 h
  · replace h := h.2 c
    refine j_aload_n (pc' := 11) hκ 0 rfl rfl dX3_append_10 rfl ?_
    refine j_aload_n (pc' := 12) hκ 0 rfl rfl dX3_append_11 rfl ?_
    refine jg_10_3 (pc' := 15) hκ iw_X3_append_X3 (fl_in hκ wd_X3_append_f21) dX3_append_12 rfl ?_
    refine j_iload_n (pc' := 16) hκ 1 rfl rfl dX3_append_15 rfl ?_
    refine j_iload_n (pc' := 17) hκ 2 rfl rfl dX3_append_16 rfl ?_
    refine j_iload_n (pc' := 18) hκ 3 rfl rfl dX3_append_17 rfl ?_
    refine jx_callVv (pc' := 21) hκ (c_draft_write (dg hκ) h) rfl rfl rfl gX3_append_X3_write hqV_X3_write ⟨Nat.le_of_ble_eq_true rfl, Nat.le_of_ble_eq_true rfl⟩ (wg_10 g _ _) rfl rfl rfl (Nat.le_of_ble_eq_true rfl) dX3_append_18 rfl (fun X1 h => ?_)
    refine j_aload_n (pc' := 22) hκ 0 rfl rfl dX3_append_21 rfl ?_
    refine j_dup (pc' := 23) hκ rfl dX3_append_22 rfl ?_
    refine jg_10_3 (pc' := 26) hκ iw_X3_append_X3 (fl_in hκ wd_X3_append_f21) dX3_append_23 rfl ?_
    refine j_iconst (pc' := 27) (v := 1) hκ (by decide) dX3_append_26 rfl ?_
    refine j_iadd (pc' := 28) hκ dX3_append_27 rfl ?_
    refine jp_10_3 (pc' := 31) hκ iw_X3_append_X3 (fl_in hκ wd_X3_append_f21) dX3_append_28 rfl ?_
    refine j_nmX (fun X3 eX3 => ?_)
    replace h := h X3 eX3
    exact hR _ _ _ dX3_append_31 h
theorem c_draft_append {g : Gx} (hg : Dg g) {X M : ST} {p1 : Int32} {p2 : Int32} {p3 : Int32} {post : ST → Prop} (h : wp_draft_append X p1 p2 p3 post) (l : Launch) : Met l yX3_append wsX3_append rm_draft_append (va_Pc [.ref (g.2.1 10), .int p1, .int p2, .int p3] (PU g X M)) (va_Qv post (fun Y t => va_P g.1 vwCl (ww g Y M) t.heap) (wA g)) 0 0 (wA g) :=
  met_xv hg (by decide) rfl [.ref (g.2.1 10), .int p1, .int p2, .int p3] rfl (Nat.le_of_ble_eq_true rfl) (fun κ hκ hR => lb_draft_append hκ hR h) l
theorem hqV_X3_append : yX3_append.cls = RX3 ∧ yX3_append.cls ≠ "java/lang/invoke/MethodHandle" ∧ yX3_append.cls ≠ "java/lang/invoke/VarHandle" ∧ (parseMethodDescriptor yX3_append.desc).map (fun d => d.parameters.length) = some 3 := by decide +kernel
abbrev rm_Judge_writeTwins_draft : Room := { frames := 2, cells := 0, slots := 0, locals := 47 }
def wp_Judge_writeTwins_draft_22_s (K47 : ST → Int32 → Int32 → Prop) (K64 : ST → Int32 → Prop) (post : Int32 → ST → Prop) (rec : ST → Int32 → Int32 → Int32 → Prop) (X : ST) (l2 : Int32) (l3 : Int32) (l4 : Int32) : Prop :=
  (l3 = 0 → (K64 X l2)) ∧ (¬ l3 = 0 → (((x_Lamps_count X) ≤ l4 → (K64 X l2)) ∧ (¬ (x_Lamps_count X) ≤ l4 → (wp_LR_isIn X l3 l4 (fun r4 X3 => (r4 = 0 → (rec X3 l2 l3 (l4 + 1))) ∧ (¬ r4 = 0 → (K47 X3 l2 l4)))))))
def wp_Judge_writeTwins_draft_22 (K47 : ST → Int32 → Int32 → Prop) (K64 : ST → Int32 → Prop) (post : Int32 → ST → Prop) : Nat → ST → Int32 → Int32 → Int32 → Prop
  | 0 => fun _ _ _ _ => False
  | n + 1 => wp_Judge_writeTwins_draft_22_s K47 K64 post (wp_Judge_writeTwins_draft_22 K47 K64 post n)
set_option maxHeartbeats 4000000 in
set_option maxRecDepth 100000 in
theorem lb_Judge_writeTwins_draft_22 {κ : Cx} {g : Gx} {M : ST} (hκ : CF κ g RX1 cX1_writeTwins wsX1_writeTwins 5 rm_Judge_writeTwins_draft) {post : Int32 → ST → Prop} (hR : RtxZ κ g 5 cX1_writeTwins M post) {K47 : ST → Int32 → Int32 → Prop} {K64 : ST → Int32 → Prop} (hK47 : ∀ (X : ST) (l2 : Int32) (l4 : Int32), K47 X l2 l4 → Jw κ g 5 X M [(1, .ref (g.2.1 10)), (2, .int l2), (4, .int l4)] 47 []) (hK64 : ∀ (X : ST) (l2 : Int32), K64 X l2 → Jw κ g 5 X M [(0, .ref (g.2.1 8)), (1, .ref (g.2.1 10)), (2, .int l2)] 64 []) : ∀ (n : Nat) (X : ST) (l2 : Int32) (l3 : Int32) (l4 : Int32), wp_Judge_writeTwins_draft_22 K47 K64 post n X l2 l3 l4 → Jw κ g 5 X M [(0, .ref (g.2.1 8)), (1, .ref (g.2.1 10)), (2, .int l2), (3, .int l3), (4, .int l4)] 22 [] := by
  intro n
  induction n with
  | zero =>
    intro X l2 l3 l4  h
    exact h.elim
  | succ n ih =>
    intro X l2 l3 l4  h
    have h : wp_Judge_writeTwins_draft_22_s K47 K64 post (wp_Judge_writeTwins_draft_22 K47 K64 post n) X l2 l3 l4 := h
    unfold wp_Judge_writeTwins_draft_22_s at h
    refine j_iload_n (pc' := 23) hκ 3 rfl rfl dX1_writeTwins_22 rfl ?_
    refine j_if_eq (tgt := 64) (pc' := 26) hκ dX1_writeTwins_23 (by decide) rfl (fun c => ?_) (fun c => ?_)
    · replace h := h.1 c
      refine j_sub [0, 1, 2] rfl ?_
      exact hK64 _ _  h
    · replace h := h.2 c
      refine j_iload (pc' := 28) hκ 4 rfl dX1_writeTwins_26 rfl ?_
      refine j_aload_n (pc' := 29) hκ 0 rfl rfl dX1_writeTwins_28 rfl ?_
      refine jg_8_0 (pc' := 32) hκ iw_X1_writeTwins_X1 (fl_in hκ wd_X1_writeTwins_f9) dX1_writeTwins_29 rfl ?_
      refine jg_3_9 (pc' := 35) hκ iw_X1_writeTwins_X2 (fl_ne hκ 38 rfl) dX1_writeTwins_32 rfl ?_
      refine j_icmp_ge (tgt := 64) (pc' := 38) hκ dX1_writeTwins_35 (by decide) rfl (fun c => ?_) (fun c => ?_)
      · replace h := h.1 c
        refine j_sub [0, 1, 2] rfl ?_
        exact hK64 _ _  h
      · replace h := h.2 c
        refine j_iload_n (pc' := 39) hκ 3 rfl rfl dX1_writeTwins_38 rfl ?_
        refine j_iload (pc' := 41) hκ 4 rfl dX1_writeTwins_39 rfl ?_
        refine jx_callNi (pc' := 44) hκ (c_LR_isIn (dg hκ) h) rfl rfl rfl gX1_writeTwins_X9_isIn_n81 7 rfl wd_X1_writeTwins_iX9 wd_X1_writeTwins_s_X9_isIn hqS_X9_isIn ⟨Nat.le_of_ble_eq_true rfl, Nat.le_of_ble_eq_true rfl⟩ rfl rfl (Nat.le_of_ble_eq_true rfl) dX1_writeTwins_41 rfl (fun r4 X3 h => ?_)
        refine j_if_eq (tgt := 58) (pc' := 47) hκ dX1_writeTwins_44 (by decide) rfl (fun c => ?_) (fun c => ?_)
        · replace h := h.1 c
          refine j_iinc (pc' := 61) (v := l4 + 1) (lv' := [(4, .int (l4 + 1)), (0, .ref (g.2.1 8)), (1, .ref (g.2.1 10)), (2, .int l2), (3, .int l3)]) hκ 4 rfl rfl (Nat.le_of_ble_eq_true rfl) rfl dX1_writeTwins_58 rfl ?_
          refine j_goto (pc' := 22) hκ (by decide) dX1_writeTwins_61 ?_
          refine j_sub [1, 2, 3, 4, 0] rfl ?_
          exact ih _ _ _ _  h
        · replace h := h.2 c
          refine j_sub [1, 2, 4] rfl ?_
          exact hK47 _ _ _  h
def wp_Judge_writeTwins_draft_2_s (K47 : ST → Int32 → Int32 → Prop) (K70 : ST → Prop) (post : Int32 → ST → Prop) (rec : ST → Int32 → Prop) (X : ST) (l2 : Int32) : Prop :=
  ((x_Lamps_count X) ≤ l2 → (K70 X)) ∧ (¬ (x_Lamps_count X) ≤ l2 → (wp_Judge_partedTwins X l2 (fun r2 X1 => ∃ n, wp_Judge_writeTwins_draft_22 K47 (fun X5 v6 => rec X5 (v6 + 1)) post n X1 l2 r2 0)))
def wp_Judge_writeTwins_draft_2 (K47 : ST → Int32 → Int32 → Prop) (K70 : ST → Prop) (post : Int32 → ST → Prop) : Nat → ST → Int32 → Prop
  | 0 => fun _ _ => False
  | n + 1 => wp_Judge_writeTwins_draft_2_s K47 K70 post (wp_Judge_writeTwins_draft_2 K47 K70 post n)
set_option maxHeartbeats 4000000 in
set_option maxRecDepth 100000 in
theorem lb_Judge_writeTwins_draft_2 {κ : Cx} {g : Gx} {M : ST} (hκ : CF κ g RX1 cX1_writeTwins wsX1_writeTwins 5 rm_Judge_writeTwins_draft) {post : Int32 → ST → Prop} (hR : RtxZ κ g 5 cX1_writeTwins M post) {K47 : ST → Int32 → Int32 → Prop} {K70 : ST → Prop} (hK47 : ∀ (X : ST) (l2 : Int32) (l4 : Int32), K47 X l2 l4 → Jw κ g 5 X M [(1, .ref (g.2.1 10)), (2, .int l2), (4, .int l4)] 47 []) (hK70 : ∀ (X : ST), K70 X → Jw κ g 5 X M [] 70 []) : ∀ (n : Nat) (X : ST) (l2 : Int32), wp_Judge_writeTwins_draft_2 K47 K70 post n X l2 → Jw κ g 5 X M [(0, .ref (g.2.1 8)), (1, .ref (g.2.1 10)), (2, .int l2)] 2 [] := by
  intro n
  induction n with
  | zero =>
    intro X l2  h
    exact h.elim
  | succ n ih =>
    intro X l2  h
    have h : wp_Judge_writeTwins_draft_2_s K47 K70 post (wp_Judge_writeTwins_draft_2 K47 K70 post n) X l2 := h
    unfold wp_Judge_writeTwins_draft_2_s at h
    refine j_iload_n (pc' := 3) hκ 2 rfl rfl dX1_writeTwins_2 rfl ?_
    refine j_aload_n (pc' := 4) hκ 0 rfl rfl dX1_writeTwins_3 rfl ?_
    refine jg_8_0 (pc' := 7) hκ iw_X1_writeTwins_X1 (fl_in hκ wd_X1_writeTwins_f9) dX1_writeTwins_4 rfl ?_
    refine jg_3_9 (pc' := 10) hκ iw_X1_writeTwins_X2 (fl_ne hκ 38 rfl) dX1_writeTwins_7 rfl ?_
    refine j_icmp_ge (tgt := 70) (pc' := 13) hκ dX1_writeTwins_10 (by decide) rfl (fun c => ?_) (fun c => ?_)
    · replace h := h.1 c
      refine j_sub [] rfl ?_
      exact hK70 _  h
    · replace h := h.2 c
      refine j_aload_n (pc' := 14) hκ 0 rfl rfl dX1_writeTwins_13 rfl ?_
      refine j_iload_n (pc' := 15) hκ 2 rfl rfl dX1_writeTwins_14 rfl ?_
      refine jx_callVi (pc' := 18) hκ (c_Judge_partedTwins (dg hκ) h) rfl rfl rfl gX1_writeTwins_X1_partedTwins hqV_X1_partedTwins ⟨Nat.le_of_ble_eq_true rfl, Nat.le_of_ble_eq_true rfl⟩ (wg_8 g _ _) rfl rfl rfl (Nat.le_of_ble_eq_true rfl) dX1_writeTwins_15 rfl (fun r2 X1 h => ?_)
      refine j_istore_n (pc' := 19) (lv' := [(3, .int r2), (0, .ref (g.2.1 8)), (1, .ref (g.2.1 10)), (2, .int l2)]) hκ (Nat.le_of_ble_eq_true rfl) rfl rfl dX1_writeTwins_18 rfl ?_
      refine j_iconst (pc' := 20) (v := 0) hκ (by decide) dX1_writeTwins_19 rfl ?_
      refine j_istore (pc' := 22) (lv' := [(4, .int 0), (3, .int r2), (0, .ref (g.2.1 8)), (1, .ref (g.2.1 10)), (2, .int l2)]) hκ (Nat.le_of_ble_eq_true rfl) rfl dX1_writeTwins_20 rfl ?_
      obtain ⟨n, h⟩ := h
      refine j_sub [2, 3, 4, 1, 0] rfl ?_
      refine lb_Judge_writeTwins_draft_22 hκ hR hK47 ?_ n _ _ _ _  h
      intro X5 v6  h
      refine j_iinc (pc' := 67) (v := v6 + 1) (lv' := [(2, .int (v6 + 1)), (0, .ref (g.2.1 8)), (1, .ref (g.2.1 10))]) hκ 2 rfl rfl (Nat.le_of_ble_eq_true rfl) rfl dX1_writeTwins_64 rfl ?_
      refine j_goto (pc' := 2) hκ (by decide) dX1_writeTwins_67 ?_
      refine j_sub [1, 2, 0] rfl ?_
      exact ih _ _  h
def wp_Judge_writeTwins_draft (X : ST) (post : Int32 → ST → Prop) : Prop :=
  ∃ n, wp_Judge_writeTwins_draft_2 (fun X7 v8 v9 => wp_draft_append X7 6 v8 v9 (fun X10 => post 1 X10)) (fun X12 => post 0 X12) post n X 0
set_option maxHeartbeats 4000000 in
set_option maxRecDepth 100000 in
theorem lb_Judge_writeTwins_draft {κ : Cx} {g : Gx} {M : ST} (hκ : CF κ g RX1 cX1_writeTwins wsX1_writeTwins 5 rm_Judge_writeTwins_draft) {post : Int32 → ST → Prop} (hR : RtxZ κ g 5 cX1_writeTwins M post) {X : ST} (h : wp_Judge_writeTwins_draft X post) : Jw κ g 5 X M [(0, .ref (g.2.1 8)), (1, .ref (g.2.1 10))] 0 [] := by
  unfold wp_Judge_writeTwins_draft at h
  refine j_iconst (pc' := 1) (v := 0) hκ (by decide) dX1_writeTwins_0 rfl ?_
  refine j_istore_n (pc' := 2) (lv' := [(2, .int 0), (0, .ref (g.2.1 8)), (1, .ref (g.2.1 10))]) hκ (Nat.le_of_ble_eq_true rfl) rfl rfl dX1_writeTwins_1 rfl ?_
  obtain ⟨n, h⟩ := h
  refine j_sub [1, 2, 0] rfl ?_
  refine lb_Judge_writeTwins_draft_2 hκ hR ?_ ?_ n _ _  h
  · intro X7 v8 v9  h
    refine j_aload_n (pc' := 48) hκ 0 rfl rfl dX1_writeTwins_47 rfl ?_
    refine j_bipush (pc' := 50) (v := 6) hκ (by decide) dX1_writeTwins_48 rfl ?_
    refine j_iload_n (pc' := 51) hκ 1 rfl rfl dX1_writeTwins_50 rfl ?_
    refine j_iload (pc' := 53) hκ 2 rfl dX1_writeTwins_51 rfl ?_
    refine jx_callVv (pc' := 56) hκ (c_draft_append (dg hκ) h) rfl rfl rfl gX1_writeTwins_X3_append hqV_X3_append ⟨Nat.le_of_ble_eq_true rfl, Nat.le_of_ble_eq_true rfl⟩ (wg_10 g _ _) rfl rfl rfl (Nat.le_of_ble_eq_true rfl) dX1_writeTwins_53 rfl (fun X10 h => ?_)
    refine j_iconst (pc' := 57) (v := 1) hκ (by decide) dX1_writeTwins_56 rfl ?_
    exact hR _ _ _ _ dX1_writeTwins_57 (Or.inr rfl) h
  · intro X12  h
    refine j_iconst (pc' := 71) (v := 0) hκ (by decide) dX1_writeTwins_70 rfl ?_
    exact hR _ _ _ _ dX1_writeTwins_71 (Or.inl rfl) h
theorem c_Judge_writeTwins_draft {g : Gx} (hg : Dg g) {X M : ST} {post : Int32 → ST → Prop} (h : wp_Judge_writeTwins_draft X post) (l : Launch) : Met l yX1_writeTwins wsX1_writeTwins rm_Judge_writeTwins_draft (va_Pc [.ref (g.2.1 8), .ref (g.2.1 10)] (PU g X M)) (va_Qi post (fun Y t => va_P g.1 vwCl (ww g Y M) t.heap) (wA g)) 0 0 (wA g) :=
  met_xz hg (by decide) rfl [.ref (g.2.1 8), .ref (g.2.1 10)] rfl (Nat.le_of_ble_eq_true rfl) (fun κ hκ hR => lb_Judge_writeTwins_draft hκ hR h) l
theorem hqV_X1_writeTwins : yX1_writeTwins.cls = RX1 ∧ yX1_writeTwins.cls ≠ "java/lang/invoke/MethodHandle" ∧ yX1_writeTwins.cls ≠ "java/lang/invoke/VarHandle" ∧ (parseMethodDescriptor yX1_writeTwins.desc).map (fun d => d.parameters.length) = some 1 := by decide +kernel
theorem wd_X1_writeAlone_f9 : Cond.fieldLink RX1 9 "LampRound$Judge" "lamps" "LLampRound$Lamps;" ∈ wsX1_writeAlone := List.mem_of_getElem? (i := 1) rfl
theorem iw_X1_writeAlone_X1 : ∀ w ∈ wsX10, w ∈ wsX1_writeAlone := fun _ h => List.mem_cons_of_mem _ (List.mem_append_left _ (List.mem_append_left _ (List.mem_append_left _ (List.mem_append_right _ h))))
theorem iw_X1_writeAlone_X2 : ∀ w ∈ wsX20, w ∈ wsX1_writeAlone := fun _ h => List.mem_cons_of_mem _ (List.mem_append_left _ (List.mem_append_left _ (List.mem_append_right _ h)))
theorem wd_X1_standsAlone_f9 : Cond.fieldLink RX1 9 "LampRound$Judge" "lamps" "LLampRound$Lamps;" ∈ wsX1_standsAlone := List.mem_of_getElem? (i := 1) rfl
theorem iw_X1_standsAlone_X1 : ∀ w ∈ wsX10, w ∈ wsX1_standsAlone := fun _ h => List.mem_cons_of_mem _ (List.mem_append_left _ (List.mem_append_left _ (List.mem_append_right _ h)))
theorem wd_X1_standsAlone_f15 : Cond.fieldLink RX1 15 "LampRound$Judge" "present" "LLampRound$Case;" ∈ wsX1_standsAlone := List.mem_of_getElem? (i := 2) rfl
theorem iw_X1_standsAlone_X0 : ∀ w ∈ wsX00, w ∈ wsX1_standsAlone := fun _ h => List.mem_cons_of_mem _ (List.mem_append_left _ (List.mem_append_right _ h))
theorem wd_X0_ringOf_iX9 : Cond.initialized RX9 ∈ wsX0_ringOf := List.mem_of_getElem? (i := 3) rfl
theorem wd_X0_ringOf_s_X9_isIn : Cond.static yX9_isIn ∈ wsX0_ringOf := List.mem_of_getElem? (i := 2) rfl
theorem wd_X0_ringOf_f9 : Cond.fieldLink RX0 9 "LampRound$Case" "joined" "[I" ∈ wsX0_ringOf := List.mem_of_getElem? (i := 1) rfl
theorem iw_X0_ringOf_X0 : ∀ w ∈ wsX00, w ∈ wsX0_ringOf := fun _ h => List.mem_cons_of_mem _ (List.mem_append_right _ h)
abbrev rm_Case_ringOf : Room := { frames := 1, cells := 0, slots := 0, locals := 21 }
def wp_Case_ringOf_26_s (K58 : ST → Int32 → Int32 → Int32 → Prop) (post : Int32 → ST → Prop) (rec : ST → Int32 → Int32 → Int32 → Int32 → Prop) (X : ST) (l2 : Int32) (l3 : Int32) (l4 : Int32) (l5 : Int32) : Prop :=
  (12 ≤ l5 → (K58 X l2 l3 l4)) ∧ (¬ 12 ≤ l5 → (wp_LR_isIn X l3 l5 (fun r3 X2 => (r3 = 0 → (rec X2 l2 l3 l4 (l5 + 1))) ∧ (¬ r3 = 0 → (vp_in l5 12 ∧ (∀ v4 : Int32, v4 = l2 ||| (x_Case_joined X2 l5.toNatClampNeg) → rec X2 v4 l3 l4 (l5 + 1)))))))
def wp_Case_ringOf_26 (K58 : ST → Int32 → Int32 → Int32 → Prop) (post : Int32 → ST → Prop) : Nat → ST → Int32 → Int32 → Int32 → Int32 → Prop
  | 0 => fun _ _ _ _ _ => False
  | n + 1 => wp_Case_ringOf_26_s K58 post (wp_Case_ringOf_26 K58 post n)
set_option maxHeartbeats 4000000 in
set_option maxRecDepth 100000 in
theorem lb_Case_ringOf_26 {κ : Cx} {g : Gx} {M : ST} (hκ : CF κ g RX0 cX0_ringOf wsX0_ringOf 6 rm_Case_ringOf) {post : Int32 → ST → Prop} (hR : RtxI κ g 6 cX0_ringOf M post) {K58 : ST → Int32 → Int32 → Int32 → Prop} (hK58 : ∀ (X : ST) (l2 : Int32) (l3 : Int32) (l4 : Int32), K58 X l2 l3 l4 → Jw κ g 6 X M [(0, .ref (g.2.1 6)), (2, .int l2), (3, .int l3), (4, .int l4)] 58 []) : ∀ (n : Nat) (X : ST) (l2 : Int32) (l3 : Int32) (l4 : Int32) (l5 : Int32), wp_Case_ringOf_26 K58 post n X l2 l3 l4 l5 → Jw κ g 6 X M [(0, .ref (g.2.1 6)), (2, .int l2), (3, .int l3), (4, .int l4), (5, .int l5)] 26 [] := by
  intro n
  induction n with
  | zero =>
    intro X l2 l3 l4 l5  h
    exact h.elim
  | succ n ih =>
    intro X l2 l3 l4 l5  h
    have h : wp_Case_ringOf_26_s K58 post (wp_Case_ringOf_26 K58 post n) X l2 l3 l4 l5 := h
    unfold wp_Case_ringOf_26_s at h
    refine j_iload (pc' := 28) hκ 4 rfl dX0_ringOf_26 rfl ?_
    refine j_bipush (pc' := 30) (v := 12) hκ (by decide) dX0_ringOf_28 rfl ?_
    refine j_icmp_ge (tgt := 58) (pc' := 33) hκ dX0_ringOf_30 (by decide) rfl (fun c => ?_) (fun c => ?_)
    · replace h := h.1 c
      refine j_sub [0, 1, 2, 3] rfl ?_
      exact hK58 _ _ _ _  h
    · replace h := h.2 c
      refine j_iload_n (pc' := 34) hκ 2 rfl rfl dX0_ringOf_33 rfl ?_
      refine j_iload (pc' := 36) hκ 4 rfl dX0_ringOf_34 rfl ?_
      refine jx_callNi (pc' := 39) hκ (c_LR_isIn (dg hκ) h) rfl rfl rfl gX0_ringOf_X9_isIn_n39 3 rfl wd_X0_ringOf_iX9 wd_X0_ringOf_s_X9_isIn hqS_X9_isIn ⟨Nat.le_of_ble_eq_true rfl, Nat.le_of_ble_eq_true rfl⟩ rfl rfl (Nat.le_of_ble_eq_true rfl) dX0_ringOf_36 rfl (fun r3 X2 h => ?_)
      refine j_if_eq (tgt := 52) (pc' := 42) hκ dX0_ringOf_39 (by decide) rfl (fun c => ?_) (fun c => ?_)
      · replace h := h.1 c
        refine j_iinc (pc' := 55) (v := l5 + 1) (lv' := [(5, .int (l5 + 1)), (0, .ref (g.2.1 6)), (2, .int l2), (3, .int l3), (4, .int l4)]) hκ 4 rfl rfl (Nat.le_of_ble_eq_true rfl) rfl dX0_ringOf_52 rfl ?_
        refine j_goto (pc' := 26) hκ (by decide) dX0_ringOf_55 ?_
        refine j_sub [1, 2, 3, 4, 0] rfl ?_
        exact ih _ _ _ _ _  h
      · replace h := h.2 c
        refine j_iload_n (pc' := 43) hκ 1 rfl rfl dX0_ringOf_42 rfl ?_
        refine j_aload_n (pc' := 44) hκ 0 rfl rfl dX0_ringOf_43 rfl ?_
        refine jg_6_0 (pc' := 47) hκ iw_X0_ringOf_X0 (fl_in hκ wd_X0_ringOf_f9) dX0_ringOf_44 rfl ?_
        refine j_iload (pc' := 49) hκ 4 rfl dX0_ringOf_47 rfl ?_
        refine jx_iald (pc' := 50) hκ (ah_34 g) h.1 dX0_ringOf_49 rfl ?_
        replace h := h.2
        refine j_ior (pc' := 51) hκ dX0_ringOf_50 rfl ?_
        refine j_topi (fun v4 ev4 => ?_)
        replace h := h v4 ev4
        refine j_istore_n (pc' := 52) (lv' := [(2, .int v4), (0, .ref (g.2.1 6)), (3, .int l3), (4, .int l4), (5, .int l5)]) hκ (Nat.le_of_ble_eq_true rfl) rfl rfl dX0_ringOf_51 rfl ?_
        refine j_iinc (pc' := 55) (v := l5 + 1) (lv' := [(5, .int (l5 + 1)), (2, .int v4), (0, .ref (g.2.1 6)), (3, .int l3), (4, .int l4)]) hκ 4 rfl rfl (Nat.le_of_ble_eq_true rfl) rfl dX0_ringOf_52 rfl ?_
        refine j_goto (pc' := 26) hκ (by decide) dX0_ringOf_55 ?_
        refine j_sub [2, 1, 3, 4, 0] rfl ?_
        exact ih _ _ _ _ _  h
def wp_Case_ringOf_9_s (K64 : ST → Int32 → Prop) (post : Int32 → ST → Prop) (rec : ST → Int32 → Int32 → Int32 → Prop) (X : ST) (l2 : Int32) (l3 : Int32) (l4 : Int32) : Prop :=
  (12 ≤ l4 → (K64 X l2)) ∧ (¬ 12 ≤ l4 → ((l2 = l3 → (K64 X l2)) ∧ (¬ l2 = l3 → (∃ n, wp_Case_ringOf_26 (fun X5 v6 v7 v8 => rec X5 v6 v7 (v8 + 1)) post n X l2 l2 l4 0))))
def wp_Case_ringOf_9 (K64 : ST → Int32 → Prop) (post : Int32 → ST → Prop) : Nat → ST → Int32 → Int32 → Int32 → Prop
  | 0 => fun _ _ _ _ => False
  | n + 1 => wp_Case_ringOf_9_s K64 post (wp_Case_ringOf_9 K64 post n)
set_option maxHeartbeats 4000000 in
set_option maxRecDepth 100000 in
theorem lb_Case_ringOf_9 {κ : Cx} {g : Gx} {M : ST} (hκ : CF κ g RX0 cX0_ringOf wsX0_ringOf 6 rm_Case_ringOf) {post : Int32 → ST → Prop} (hR : RtxI κ g 6 cX0_ringOf M post) {K64 : ST → Int32 → Prop} (hK64 : ∀ (X : ST) (l2 : Int32), K64 X l2 → Jw κ g 6 X M [(2, .int l2)] 64 []) : ∀ (n : Nat) (X : ST) (l2 : Int32) (l3 : Int32) (l4 : Int32), wp_Case_ringOf_9 K64 post n X l2 l3 l4 → Jw κ g 6 X M [(0, .ref (g.2.1 6)), (2, .int l2), (3, .int l3), (4, .int l4)] 9 [] := by
  intro n
  induction n with
  | zero =>
    intro X l2 l3 l4  h
    exact h.elim
  | succ n ih =>
    intro X l2 l3 l4  h
    have h : wp_Case_ringOf_9_s K64 post (wp_Case_ringOf_9 K64 post n) X l2 l3 l4 := h
    unfold wp_Case_ringOf_9_s at h
    refine j_iload (pc' := 11) hκ 3 rfl dX0_ringOf_9 rfl ?_
    refine j_bipush (pc' := 13) (v := 12) hκ (by decide) dX0_ringOf_11 rfl ?_
    refine j_icmp_ge (tgt := 64) (pc' := 16) hκ dX0_ringOf_13 (by decide) rfl (fun c => ?_) (fun c => ?_)
    · replace h := h.1 c
      refine j_sub [1] rfl ?_
      exact hK64 _ _  h
    · replace h := h.2 c
      refine j_iload_n (pc' := 17) hκ 1 rfl rfl dX0_ringOf_16 rfl ?_
      refine j_iload_n (pc' := 18) hκ 2 rfl rfl dX0_ringOf_17 rfl ?_
      refine j_icmp_eq (tgt := 64) (pc' := 21) hκ dX0_ringOf_18 (by decide) rfl (fun c => ?_) (fun c => ?_)
      · replace h := h.1 c
        refine j_sub [1] rfl ?_
        exact hK64 _ _  h
      · replace h := h.2 c
        refine j_iload_n (pc' := 22) hκ 1 rfl rfl dX0_ringOf_21 rfl ?_
        refine j_istore_n (pc' := 23) (lv' := [(3, .int l2), (0, .ref (g.2.1 6)), (2, .int l2), (4, .int l4)]) hκ (Nat.le_of_ble_eq_true rfl) rfl rfl dX0_ringOf_22 rfl ?_
        refine j_iconst (pc' := 24) (v := 0) hκ (by decide) dX0_ringOf_23 rfl ?_
        refine j_istore (pc' := 26) (lv' := [(5, .int 0), (3, .int l2), (0, .ref (g.2.1 6)), (2, .int l2), (4, .int l4)]) hκ (Nat.le_of_ble_eq_true rfl) rfl dX0_ringOf_24 rfl ?_
        obtain ⟨n, h⟩ := h
        refine j_sub [2, 3, 1, 4, 0] rfl ?_
        refine lb_Case_ringOf_26 hκ hR ?_ n _ _ _ _ _  h
        intro X5 v6 v7 v8  h
        refine j_iinc (pc' := 61) (v := v8 + 1) (lv' := [(4, .int (v8 + 1)), (0, .ref (g.2.1 6)), (2, .int v6), (3, .int v7)]) hκ 3 rfl rfl (Nat.le_of_ble_eq_true rfl) rfl dX0_ringOf_58 rfl ?_
        refine j_goto (pc' := 9) hκ (by decide) dX0_ringOf_61 ?_
        refine j_sub [1, 2, 3, 0] rfl ?_
        exact ih _ _ _ _  h
def wp_Case_ringOf (X : ST) (p1 : Int32) (post : Int32 → ST → Prop) : Prop :=
  ∀ v1 : Int32, v1 = (1 : Int32) <<< (p1 &&& 31) → ∃ n, wp_Case_ringOf_9 (fun X9 v10 => post v10 X9) post n X v1 0 0
set_option maxHeartbeats 4000000 in
set_option maxRecDepth 100000 in
theorem lb_Case_ringOf {κ : Cx} {g : Gx} {M : ST} (hκ : CF κ g RX0 cX0_ringOf wsX0_ringOf 6 rm_Case_ringOf) {post : Int32 → ST → Prop} (hR : RtxI κ g 6 cX0_ringOf M post) {X : ST} {p1 : Int32} (h : wp_Case_ringOf X p1 post) : Jw κ g 6 X M [(0, .ref (g.2.1 6)), (1, .int p1)] 0 [] := by
  unfold wp_Case_ringOf at h
  refine j_iconst (pc' := 1) (v := 1) hκ (by decide) dX0_ringOf_0 rfl ?_
  refine j_iload_n (pc' := 2) hκ 1 rfl rfl dX0_ringOf_1 rfl ?_
  refine j_ishl (pc' := 3) hκ dX0_ringOf_2 rfl ?_
  refine j_topi (fun v1 ev1 => ?_)
  replace h := h v1 ev1
  refine j_istore_n (pc' := 4) (lv' := [(2, .int v1), (0, .ref (g.2.1 6)), (1, .int p1)]) hκ (Nat.le_of_ble_eq_true rfl) rfl rfl dX0_ringOf_3 rfl ?_
  refine j_iconst (pc' := 5) (v := 0) hκ (by decide) dX0_ringOf_4 rfl ?_
  refine j_istore_n (pc' := 6) (lv' := [(3, .int 0), (2, .int v1), (0, .ref (g.2.1 6)), (1, .int p1)]) hκ (Nat.le_of_ble_eq_true rfl) rfl rfl dX0_ringOf_5 rfl ?_
  refine j_iconst (pc' := 7) (v := 0) hκ (by decide) dX0_ringOf_6 rfl ?_
  refine j_istore (pc' := 9) (lv' := [(4, .int 0), (3, .int 0), (2, .int v1), (0, .ref (g.2.1 6)), (1, .int p1)]) hκ (Nat.le_of_ble_eq_true rfl) rfl dX0_ringOf_7 rfl ?_
  obtain ⟨n, h⟩ := h
  refine j_sub [3, 2, 1, 0] rfl ?_
  refine lb_Case_ringOf_9 hκ hR ?_ n _ _ _ _  h
  intro X9 v10  h
  refine j_iload_n (pc' := 65) hκ 0 rfl rfl dX0_ringOf_64 rfl ?_
  exact hR _ _ _ _ dX0_ringOf_65 h
theorem c_Case_ringOf {g : Gx} (hg : Dg g) {X M : ST} {p1 : Int32} {post : Int32 → ST → Prop} (h : wp_Case_ringOf X p1 post) (l : Launch) : Met l yX0_ringOf wsX0_ringOf rm_Case_ringOf (va_Pc [.ref (g.2.1 6), .int p1] (PU g X M)) (va_Qi post (fun Y t => va_P g.1 vwCl (ww g Y M) t.heap) (wA g)) 0 0 (wA g) :=
  met_xi hg (by decide) rfl [.ref (g.2.1 6), .int p1] rfl (Nat.le_of_ble_eq_true rfl) (fun κ hκ hR => lb_Case_ringOf hκ hR h) l
theorem hqV_X0_ringOf : yX0_ringOf.cls = RX0 ∧ yX0_ringOf.cls ≠ "java/lang/invoke/MethodHandle" ∧ yX0_ringOf.cls ≠ "java/lang/invoke/VarHandle" ∧ (parseMethodDescriptor yX0_ringOf.desc).map (fun d => d.parameters.length) = some 1 := by decide +kernel
theorem wd_X1_isRing_iX9 : Cond.initialized RX9 ∈ wsX1_isRing := List.mem_of_getElem? (i := 4) rfl
theorem wd_X1_isRing_s_X9_isIn : Cond.static yX9_isIn ∈ wsX1_isRing := List.mem_of_getElem? (i := 3) rfl
theorem wd_X1_isRing_f15 : Cond.fieldLink RX1 15 "LampRound$Judge" "present" "LLampRound$Case;" ∈ wsX1_isRing := List.mem_of_getElem? (i := 1) rfl
theorem iw_X1_isRing_X1 : ∀ w ∈ wsX10, w ∈ wsX1_isRing := fun _ h => List.mem_cons_of_mem _ (List.mem_append_left _ (List.mem_append_left _ (List.mem_append_right _ h)))
theorem iw_X1_isRing_X0 : ∀ w ∈ wsX00, w ∈ wsX1_isRing := fun _ h => List.mem_cons_of_mem _ (List.mem_append_left _ (List.mem_append_right _ h))
theorem wd_X1_isRing_f9 : Cond.fieldLink RX1 9 "LampRound$Judge" "lamps" "LLampRound$Lamps;" ∈ wsX1_isRing := List.mem_of_getElem? (i := 2) rfl
theorem iw_X1_isRing_X2 : ∀ w ∈ wsX20, w ∈ wsX1_isRing := fun _ h => List.mem_cons_of_mem _ (List.mem_append_right _ h)
abbrev rm_Judge_isRing : Room := { frames := 1, cells := 0, slots := 0, locals := 21 }
def wp_Judge_isRing_2_s (K32 : ST → Prop) (K40 : ST → Int32 → Prop) (post : Int32 → ST → Prop) (rec : ST → Int32 → Int32 → Prop) (X : ST) (l1 : Int32) (l2 : Int32) : Prop :=
  (12 ≤ l2 → (K40 X l1)) ∧ (¬ 12 ≤ l2 → (wp_LR_isIn X l1 l2 (fun r2 X1 => (r2 = 0 → (rec X1 l1 (l2 + 1))) ∧ (¬ r2 = 0 → (vp_in l2 12 ∧ (wp_int_bitCount X1 (x_Case_joined X1 l2.toNatClampNeg) (fun r4 X3 => (r4 = 2 → (rec X3 l1 (l2 + 1))) ∧ (¬ r4 = 2 → (K32 X3)))))))))
def wp_Judge_isRing_2 (K32 : ST → Prop) (K40 : ST → Int32 → Prop) (post : Int32 → ST → Prop) : Nat → ST → Int32 → Int32 → Prop
  | 0 => fun _ _ _ => False
  | n + 1 => wp_Judge_isRing_2_s K32 K40 post (wp_Judge_isRing_2 K32 K40 post n)
set_option maxHeartbeats 4000000 in
set_option maxRecDepth 100000 in
theorem lb_Judge_isRing_2 {κ : Cx} {g : Gx} {M : ST} (hκ : CF κ g RX1 cX1_isRing wsX1_isRing 3 rm_Judge_isRing) {post : Int32 → ST → Prop} (hR : RtxZ κ g 3 cX1_isRing M post) {K32 : ST → Prop} {K40 : ST → Int32 → Prop} (hK32 : ∀ (X : ST), K32 X → Jw κ g 3 X M [] 32 []) (hK40 : ∀ (X : ST) (l1 : Int32), K40 X l1 → Jw κ g 3 X M [(0, .ref (g.2.1 8)), (1, .int l1)] 40 []) : ∀ (n : Nat) (X : ST) (l1 : Int32) (l2 : Int32), wp_Judge_isRing_2 K32 K40 post n X l1 l2 → Jw κ g 3 X M [(0, .ref (g.2.1 8)), (1, .int l1), (2, .int l2)] 2 [] := by
  intro n
  induction n with
  | zero =>
    intro X l1 l2  h
    exact h.elim
  | succ n ih =>
    intro X l1 l2  h
    have h : wp_Judge_isRing_2_s K32 K40 post (wp_Judge_isRing_2 K32 K40 post n) X l1 l2 := h
    unfold wp_Judge_isRing_2_s at h
    refine j_iload_n (pc' := 3) hκ 2 rfl rfl dX1_isRing_2 rfl ?_
    refine j_bipush (pc' := 5) (v := 12) hκ (by decide) dX1_isRing_3 rfl ?_
    refine j_icmp_ge (tgt := 40) (pc' := 8) hκ dX1_isRing_5 (by decide) rfl (fun c => ?_) (fun c => ?_)
    · replace h := h.1 c
      refine j_sub [0, 1] rfl ?_
      exact hK40 _ _  h
    · replace h := h.2 c
      refine j_iload_n (pc' := 9) hκ 1 rfl rfl dX1_isRing_8 rfl ?_
      refine j_iload_n (pc' := 10) hκ 2 rfl rfl dX1_isRing_9 rfl ?_
      refine jx_callNi (pc' := 13) hκ (c_LR_isIn (dg hκ) h) rfl rfl rfl gX1_isRing_X9_isIn_n81 7 rfl wd_X1_isRing_iX9 wd_X1_isRing_s_X9_isIn hqS_X9_isIn ⟨Nat.le_of_ble_eq_true rfl, Nat.le_of_ble_eq_true rfl⟩ rfl rfl (Nat.le_of_ble_eq_true rfl) dX1_isRing_10 rfl (fun r2 X1 h => ?_)
      refine j_if_eq (tgt := 34) (pc' := 16) hκ dX1_isRing_13 (by decide) rfl (fun c => ?_) (fun c => ?_)
      · replace h := h.1 c
        refine j_iinc (pc' := 37) (v := l2 + 1) (lv' := [(2, .int (l2 + 1)), (0, .ref (g.2.1 8)), (1, .int l1)]) hκ 2 rfl rfl (Nat.le_of_ble_eq_true rfl) rfl dX1_isRing_34 rfl ?_
        refine j_goto (pc' := 2) hκ (by decide) dX1_isRing_37 ?_
        refine j_sub [1, 2, 0] rfl ?_
        exact ih _ _ _  h
      · replace h := h.2 c
        refine j_aload_n (pc' := 17) hκ 0 rfl rfl dX1_isRing_16 rfl ?_
        refine jg_8_1 (pc' := 20) hκ iw_X1_isRing_X1 (fl_in hκ wd_X1_isRing_f15) dX1_isRing_17 rfl ?_
        refine jg_6_0 (pc' := 23) hκ iw_X1_isRing_X0 (fl_ne hκ 36 rfl) dX1_isRing_20 rfl ?_
        refine j_iload_n (pc' := 24) hκ 2 rfl rfl dX1_isRing_23 rfl ?_
        refine jx_iald (pc' := 25) hκ (ah_34 g) h.1 dX1_isRing_24 rfl ?_
        replace h := h.2
        refine jx_callSi (pc' := 28) hκ (c_int_bitCount (dg hκ) h) rfl rfl rfl gX1_isRing_J6_bitCount_0f7a4 hqS_J6_bitCount_0f7a4 ⟨Nat.le_of_ble_eq_true rfl, Nat.le_of_ble_eq_true rfl⟩ rfl rfl (Nat.le_of_ble_eq_true rfl) dX1_isRing_25 rfl (fun r4 X3 h => ?_)
        refine j_iconst (pc' := 29) (v := 2) hκ (by decide) dX1_isRing_28 rfl ?_
        refine j_icmp_eq (tgt := 34) (pc' := 32) hκ dX1_isRing_29 (by decide) rfl (fun c => ?_) (fun c => ?_)
        · replace h := h.1 c
          refine j_iinc (pc' := 37) (v := l2 + 1) (lv' := [(2, .int (l2 + 1)), (0, .ref (g.2.1 8)), (1, .int l1)]) hκ 2 rfl rfl (Nat.le_of_ble_eq_true rfl) rfl dX1_isRing_34 rfl ?_
          refine j_goto (pc' := 2) hκ (by decide) dX1_isRing_37 ?_
          refine j_sub [1, 2, 0] rfl ?_
          exact ih _ _ _  h
        · replace h := h.2 c
          refine j_sub [] rfl ?_
          exact hK32 _  h
def wp_Judge_isRing (X : ST) (p1 : Int32) (post : Int32 → ST → Prop) : Prop :=
  ∃ n, wp_Judge_isRing_2 (fun X5 => post 0 X5) (fun X6 v7 => (v7 = (x_Lamps_live X6) → (post 0 X6)) ∧ (¬ v7 = (x_Lamps_live X6) → (post 1 X6))) post n X p1 0
set_option maxHeartbeats 4000000 in
set_option maxRecDepth 100000 in
theorem lb_Judge_isRing {κ : Cx} {g : Gx} {M : ST} (hκ : CF κ g RX1 cX1_isRing wsX1_isRing 3 rm_Judge_isRing) {post : Int32 → ST → Prop} (hR : RtxZ κ g 3 cX1_isRing M post) {X : ST} {p1 : Int32} (h : wp_Judge_isRing X p1 post) : Jw κ g 3 X M [(0, .ref (g.2.1 8)), (1, .int p1)] 0 [] := by
  unfold wp_Judge_isRing at h
  refine j_iconst (pc' := 1) (v := 0) hκ (by decide) dX1_isRing_0 rfl ?_
  refine j_istore_n (pc' := 2) (lv' := [(2, .int 0), (0, .ref (g.2.1 8)), (1, .int p1)]) hκ (Nat.le_of_ble_eq_true rfl) rfl rfl dX1_isRing_1 rfl ?_
  obtain ⟨n, h⟩ := h
  refine j_sub [1, 2, 0] rfl ?_
  refine lb_Judge_isRing_2 hκ hR ?_ ?_ n _ _ _  h
  · intro X5  h
    refine j_iconst (pc' := 33) (v := 0) hκ (by decide) dX1_isRing_32 rfl ?_
    exact hR _ _ _ _ dX1_isRing_33 (Or.inl rfl) h
  · intro X6 v7  h
    refine j_iload_n (pc' := 41) hκ 1 rfl rfl dX1_isRing_40 rfl ?_
    refine j_aload_n (pc' := 42) hκ 0 rfl rfl dX1_isRing_41 rfl ?_
    refine jg_8_0 (pc' := 45) hκ iw_X1_isRing_X1 (fl_in hκ wd_X1_isRing_f9) dX1_isRing_42 rfl ?_
    refine jg_3_8 (pc' := 48) hκ iw_X1_isRing_X2 (fl_ne hκ 37 rfl) dX1_isRing_45 rfl ?_
    refine j_icmp_eq (tgt := 55) (pc' := 51) hκ dX1_isRing_48 (by decide) rfl (fun c => ?_) (fun c => ?_)
    · replace h := h.1 c
      refine j_iconst (pc' := 56) (v := 0) hκ (by decide) dX1_isRing_55 rfl ?_
      exact hR _ _ _ _ dX1_isRing_56 (Or.inl rfl) h
    · replace h := h.2 c
      refine j_iconst (pc' := 52) (v := 1) hκ (by decide) dX1_isRing_51 rfl ?_
      refine j_goto (pc' := 56) hκ (by decide) dX1_isRing_52 ?_
      exact hR _ _ _ _ dX1_isRing_56 (Or.inr rfl) h
theorem c_Judge_isRing {g : Gx} (hg : Dg g) {X M : ST} {p1 : Int32} {post : Int32 → ST → Prop} (h : wp_Judge_isRing X p1 post) (l : Launch) : Met l yX1_isRing wsX1_isRing rm_Judge_isRing (va_Pc [.ref (g.2.1 8), .int p1] (PU g X M)) (va_Qi post (fun Y t => va_P g.1 vwCl (ww g Y M) t.heap) (wA g)) 0 0 (wA g) :=
  met_xz hg (by decide) rfl [.ref (g.2.1 8), .int p1] rfl (Nat.le_of_ble_eq_true rfl) (fun κ hκ hR => lb_Judge_isRing hκ hR h) l
theorem hqV_X1_isRing : yX1_isRing.cls = RX1 ∧ yX1_isRing.cls ≠ "java/lang/invoke/MethodHandle" ∧ yX1_isRing.cls ≠ "java/lang/invoke/VarHandle" ∧ (parseMethodDescriptor yX1_isRing.desc).map (fun d => d.parameters.length) = some 1 := by decide +kernel
abbrev rm_Judge_standsAlone : Room := { frames := 2, cells := 0, slots := 0, locals := 46 }
def wp_Judge_standsAlone (X : ST) (p1 : Int32) (p2 : Int32) (post : Int32 → ST → Prop) : Prop :=
  (p1 = 3 → (wp_Lamps_liveCount X (fun r2 X1 => vp_in p2 12 ∧ (wp_int_bitCount X1 (x_Case_parted X1 p2.toNatClampNeg) (fun r4 X3 => (2 ≤ ((r2 - 1) - r4) → (post 0 X3)) ∧ (¬ 2 ≤ ((r2 - 1) - r4) → (post 1 X3))))))) ∧ (¬ p1 = 3 → ((p1 = 4 → (vp_in p2 12 ∧ (wp_int_bitCount X (x_Case_joined X p2.toNatClampNeg) (fun r6 X5 => (r6 ≤ 2 → (post 0 X5)) ∧ (¬ r6 ≤ 2 → (post 1 X5)))))) ∧ (¬ p1 = 4 → ((p1 = 5 → (wp_Case_ringOf X p2 (fun r8 X7 => wp_Judge_isRing X7 r8 (fun r10 X9 => bz r10 ∧ post r10 X9)))) ∧ (¬ p1 = 5 → (post 0 X))))))
set_option maxHeartbeats 4000000 in
set_option maxRecDepth 100000 in
theorem lb_Judge_standsAlone {κ : Cx} {g : Gx} {M : ST} (hκ : CF κ g RX1 cX1_standsAlone wsX1_standsAlone 3 rm_Judge_standsAlone) {post : Int32 → ST → Prop} (hR : RtxZ κ g 3 cX1_standsAlone M post) {X : ST} {p1 : Int32} {p2 : Int32} (h : wp_Judge_standsAlone X p1 p2 post) : Jw κ g 3 X M [(0, .ref (g.2.1 8)), (1, .int p1), (2, .int p2)] 0 [] := by
  unfold wp_Judge_standsAlone at h
  refine j_iload_n (pc' := 1) hκ 1 rfl rfl dX1_standsAlone_0 rfl ?_
  by_cases c0 : p1 = 3
  · replace h := h.1 c0
    refine j_tabEq (v := 3) (tgt := 28) hκ dX1_standsAlone_1 c0 (by decide) (by decide) rfl (by decide) ?_
    refine j_aload_n (pc' := 29) hκ 0 rfl rfl dX1_standsAlone_28 rfl ?_
    refine jg_8_0 (pc' := 32) hκ iw_X1_standsAlone_X1 (fl_in hκ wd_X1_standsAlone_f9) dX1_standsAlone_29 rfl ?_
    refine jx_callVi (pc' := 35) hκ (c_Lamps_liveCount (dg hκ) h) rfl rfl rfl gX1_standsAlone_X2_liveCount hqV_X2_liveCount ⟨Nat.le_of_ble_eq_true rfl, Nat.le_of_ble_eq_true rfl⟩ (wg_3 g _ _) rfl rfl rfl (Nat.le_of_ble_eq_true rfl) dX1_standsAlone_32 rfl (fun r2 X1 h => ?_)
    refine j_iconst (pc' := 36) (v := 1) hκ (by decide) dX1_standsAlone_35 rfl ?_
    refine j_isub (pc' := 37) hκ dX1_standsAlone_36 rfl ?_
    refine j_aload_n (pc' := 38) hκ 0 rfl rfl dX1_standsAlone_37 rfl ?_
    refine jg_8_1 (pc' := 41) hκ iw_X1_standsAlone_X1 (fl_in hκ wd_X1_standsAlone_f15) dX1_standsAlone_38 rfl ?_
    refine jg_6_1 (pc' := 44) hκ iw_X1_standsAlone_X0 (fl_ne hκ 35 rfl) dX1_standsAlone_41 rfl ?_
    refine j_iload_n (pc' := 45) hκ 2 rfl rfl dX1_standsAlone_44 rfl ?_
    refine jx_iald (pc' := 46) hκ (ah_35 g) h.1 dX1_standsAlone_45 rfl ?_
    replace h := h.2
    refine jx_callSi (pc' := 49) hκ (c_int_bitCount (dg hκ) h) rfl rfl rfl gX1_standsAlone_J6_bitCount_0f7a4 hqS_J6_bitCount_0f7a4 ⟨Nat.le_of_ble_eq_true rfl, Nat.le_of_ble_eq_true rfl⟩ rfl rfl (Nat.le_of_ble_eq_true rfl) dX1_standsAlone_46 rfl (fun r4 X3 h => ?_)
    refine j_isub (pc' := 50) hκ dX1_standsAlone_49 rfl ?_
    refine j_iconst (pc' := 51) (v := 2) hκ (by decide) dX1_standsAlone_50 rfl ?_
    refine j_icmp_ge (tgt := 58) (pc' := 54) hκ dX1_standsAlone_51 (by decide) rfl (fun c => ?_) (fun c => ?_)
    · replace h := h.1 c
      refine j_iconst (pc' := 59) (v := 0) hκ (by decide) dX1_standsAlone_58 rfl ?_
      exact hR _ _ _ _ dX1_standsAlone_59 (Or.inl rfl) h
    · replace h := h.2 c
      refine j_iconst (pc' := 55) (v := 1) hκ (by decide) dX1_standsAlone_54 rfl ?_
      refine j_goto (pc' := 59) hκ (by decide) dX1_standsAlone_55 ?_
      exact hR _ _ _ _ dX1_standsAlone_59 (Or.inr rfl) h
  replace h := h.2 c0
  by_cases c1 : p1 = 4
  · replace h := h.1 c1
    refine j_tabEq (v := 4) (tgt := 60) hκ dX1_standsAlone_1 c1 (by decide) (by decide) rfl (by decide) ?_
    refine j_aload_n (pc' := 61) hκ 0 rfl rfl dX1_standsAlone_60 rfl ?_
    refine jg_8_1 (pc' := 64) hκ iw_X1_standsAlone_X1 (fl_in hκ wd_X1_standsAlone_f15) dX1_standsAlone_61 rfl ?_
    refine jg_6_0 (pc' := 67) hκ iw_X1_standsAlone_X0 (fl_ne hκ 36 rfl) dX1_standsAlone_64 rfl ?_
    refine j_iload_n (pc' := 68) hκ 2 rfl rfl dX1_standsAlone_67 rfl ?_
    refine jx_iald (pc' := 69) hκ (ah_34 g) h.1 dX1_standsAlone_68 rfl ?_
    replace h := h.2
    refine jx_callSi (pc' := 72) hκ (c_int_bitCount (dg hκ) h) rfl rfl rfl gX1_standsAlone_J6_bitCount_0f7a4 hqS_J6_bitCount_0f7a4 ⟨Nat.le_of_ble_eq_true rfl, Nat.le_of_ble_eq_true rfl⟩ rfl rfl (Nat.le_of_ble_eq_true rfl) dX1_standsAlone_69 rfl (fun r6 X5 h => ?_)
    refine j_iconst (pc' := 73) (v := 2) hκ (by decide) dX1_standsAlone_72 rfl ?_
    refine j_icmp_le (tgt := 80) (pc' := 76) hκ dX1_standsAlone_73 (by decide) rfl (fun c => ?_) (fun c => ?_)
    · replace h := h.1 c
      refine j_iconst (pc' := 81) (v := 0) hκ (by decide) dX1_standsAlone_80 rfl ?_
      exact hR _ _ _ _ dX1_standsAlone_81 (Or.inl rfl) h
    · replace h := h.2 c
      refine j_iconst (pc' := 77) (v := 1) hκ (by decide) dX1_standsAlone_76 rfl ?_
      refine j_goto (pc' := 81) hκ (by decide) dX1_standsAlone_77 ?_
      exact hR _ _ _ _ dX1_standsAlone_81 (Or.inr rfl) h
  replace h := h.2 c1
  by_cases c2 : p1 = 5
  · replace h := h.1 c2
    refine j_tabEq (v := 5) (tgt := 82) hκ dX1_standsAlone_1 c2 (by decide) (by decide) rfl (by decide) ?_
    refine j_aload_n (pc' := 83) hκ 0 rfl rfl dX1_standsAlone_82 rfl ?_
    refine j_aload_n (pc' := 84) hκ 0 rfl rfl dX1_standsAlone_83 rfl ?_
    refine jg_8_1 (pc' := 87) hκ iw_X1_standsAlone_X1 (fl_in hκ wd_X1_standsAlone_f15) dX1_standsAlone_84 rfl ?_
    refine j_iload_n (pc' := 88) hκ 2 rfl rfl dX1_standsAlone_87 rfl ?_
    refine jx_callVi (pc' := 91) hκ (c_Case_ringOf (dg hκ) h) rfl rfl rfl gX1_standsAlone_X0_ringOf hqV_X0_ringOf ⟨Nat.le_of_ble_eq_true rfl, Nat.le_of_ble_eq_true rfl⟩ (wg_6 g _ _) rfl rfl rfl (Nat.le_of_ble_eq_true rfl) dX1_standsAlone_88 rfl (fun r8 X7 h => ?_)
    refine jx_callVi (pc' := 94) hκ (c_Judge_isRing (dg hκ) h) rfl rfl rfl gX1_standsAlone_X1_isRing hqV_X1_isRing ⟨Nat.le_of_ble_eq_true rfl, Nat.le_of_ble_eq_true rfl⟩ (wg_8 g _ _) rfl rfl rfl (Nat.le_of_ble_eq_true rfl) dX1_standsAlone_91 rfl (fun r10 X9 h => ?_)
    exact hR _ _ _ _ dX1_standsAlone_94 h.1 h.2
  replace h := h.2 c2
  have u0 : ¬ (p1).toInt = 3 := fun e => c0 (Int32.toInt_inj.mp (e.trans (by decide)))
  have u1 : ¬ (p1).toInt = 4 := fun e => c1 (Int32.toInt_inj.mp (e.trans (by decide)))
  have u2 : ¬ (p1).toInt = 5 := fun e => c2 (Int32.toInt_inj.mp (e.trans (by decide)))
  refine j_tabOut (tgt := 95) hκ dX1_standsAlone_1 (by omega) (by decide) ?_
  refine j_iconst (pc' := 96) (v := 0) hκ (by decide) dX1_standsAlone_95 rfl ?_
  exact hR _ _ _ _ dX1_standsAlone_96 (Or.inl rfl) h
theorem c_Judge_standsAlone {g : Gx} (hg : Dg g) {X M : ST} {p1 : Int32} {p2 : Int32} {post : Int32 → ST → Prop} (h : wp_Judge_standsAlone X p1 p2 post) (l : Launch) : Met l yX1_standsAlone wsX1_standsAlone rm_Judge_standsAlone (va_Pc [.ref (g.2.1 8), .int p1, .int p2] (PU g X M)) (va_Qi post (fun Y t => va_P g.1 vwCl (ww g Y M) t.heap) (wA g)) 0 0 (wA g) :=
  met_xz hg (by decide) rfl [.ref (g.2.1 8), .int p1, .int p2] rfl (Nat.le_of_ble_eq_true rfl) (fun κ hκ hR => lb_Judge_standsAlone hκ hR h) l
