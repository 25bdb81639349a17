theorem dg {κ : Cx} {g : Gx} {own : String} {cc : ByteArray} {Ts : List Cond} {nL : Nat} {rm : Room} (hκ : CF κ g own cc Ts nL rm) : Dg g := by
  obtain ⟨p, l, e, R, s, m, args, below, meth, c, cells, slots, Q, A⟩ := κ
  obtain ⟨hx, hb, hml, hown, hts, hK, hN, hD, hAA, rfl, hc9, hs9, hg⟩ := hκ
  exact hg
abbrev rm_LR_isCrossing : Room := { frames := 0, cells := 0, slots := 0, locals := 0 }
def wp_LR_isCrossing (X : ST) (p0 : Int32) (post : Int32 → ST → Prop) : Prop :=
  (p0 < 0 → (post 0 X)) ∧ (¬ p0 < 0 → ((40 ≤ p0 → (post 0 X)) ∧ (¬ 40 ≤ p0 → (post 1 X))))
set_option maxHeartbeats 4000000 in
set_option maxRecDepth 100000 in
theorem lb_LR_isCrossing {κ : Cx} {g : Gx} {M : ST} (hκ : CF κ g RX9 cX9_isCrossing wq_X9_isCrossing 1 rm_LR_isCrossing) {post : Int32 → ST → Prop} (hR : RtxZ κ g 1 cX9_isCrossing M post) {X : ST} {p0 : Int32} (h : wp_LR_isCrossing X p0 post) : Jw κ g 1 X M [(0, .int p0)] 0 [] := by
  unfold wp_LR_isCrossing at h
  refine j_iload_n (pc' := 1) hκ 0 rfl rfl dX9_isCrossing_0 rfl ?_
  refine j_if_lt (tgt := 14) (pc' := 4) hκ dX9_isCrossing_1 (by decide) rfl (fun c => ?_) (fun c => ?_)
  · replace h := h.1 c
    refine j_iconst (pc' := 15) (v := 0) hκ (by decide) dX9_isCrossing_14 rfl ?_
    exact hR _ _ _ _ dX9_isCrossing_15 (Or.inl rfl) h
  · replace h := h.2 c
    refine j_iload_n (pc' := 5) hκ 0 rfl rfl dX9_isCrossing_4 rfl ?_
    refine j_bipush (pc' := 7) (v := 40) hκ (by decide) dX9_isCrossing_5 rfl ?_
    refine j_icmp_ge (tgt := 14) (pc' := 10) hκ dX9_isCrossing_7 (by decide) rfl (fun c => ?_) (fun c => ?_)
    · replace h := h.1 c
      refine j_iconst (pc' := 15) (v := 0) hκ (by decide) dX9_isCrossing_14 rfl ?_
      exact hR _ _ _ _ dX9_isCrossing_15 (Or.inl rfl) h
    · replace h := h.2 c
      refine j_iconst (pc' := 11) (v := 1) hκ (by decide) dX9_isCrossing_10 rfl ?_
      refine j_goto (pc' := 15) hκ (by decide) dX9_isCrossing_11 ?_
      exact hR _ _ _ _ dX9_isCrossing_15 (Or.inr rfl) h
theorem c_LR_isCrossing {g : Gx} (hg : Dg g) {X M : ST} {p0 : Int32} {post : Int32 → ST → Prop} (h : wp_LR_isCrossing X p0 post) (l : Launch) : Met l yX9_isCrossing wq_X9_isCrossing rm_LR_isCrossing (va_Pc [.int p0] (PU g X M)) (va_Qi post (fun Y t => va_P g.1 vwCl (ww g Y M) t.heap) (wA g)) 0 0 (wA g) :=
  met_xz hg (by decide) rfl [.int p0] rfl (Nat.le_of_ble_eq_true rfl) (fun κ hκ hR => lb_LR_isCrossing hκ hR h) l
theorem wm_9_1 : Cond.methodLink RX9 83 yX9_isCrossing ∈ wAll := inr_9 (List.mem_of_getElem? (i := 1) rfl)
theorem wm_9_2 : Cond.static yX9_isCrossing ∈ wAll := inr_9 (List.mem_of_getElem? (i := 2) rfl)
theorem wm_1_2 : Cond.initialized RX9 ∈ wAll := inr_1 (List.mem_of_getElem? (i := 2) rfl)
theorem wm_9_3 : Cond.code yX9_isCrossing cX9_isCrossing 1 (some .boolean) ∈ wAll := inr_9 (List.mem_of_getElem? (i := 3) rfl)
theorem hqS_X9_isCrossing : yX9_isCrossing.cls ≠ "java/lang/invoke/MethodHandle" ∧ yX9_isCrossing.cls ≠ "java/lang/invoke/VarHandle" ∧ (parseMethodDescriptor yX9_isCrossing.desc).map (fun d => d.parameters.length) = some 1 := by decide +kernel
theorem wm_9_7 : Cond.constantLong RX9 346 (1000) ∈ wAll := inr_9 (List.mem_of_getElem? (i := 7) rfl)
abbrev rm_LR_isLength : Room := { frames := 0, cells := 0, slots := 0, locals := 0 }
def wp_LR_isLength (X : ST) (p0 : Int64) (post : Int32 → ST → Prop) : Prop :=
  (p0 < 1 → (post 0 X)) ∧ (¬ p0 < 1 → ((1000 < p0 → (post 0 X)) ∧ (¬ 1000 < p0 → (post 1 X))))
set_option maxHeartbeats 4000000 in
set_option maxRecDepth 100000 in
theorem lb_LR_isLength {κ : Cx} {g : Gx} {M : ST} (hκ : CF κ g RX9 cX9_isLength wq_X9_isLength 2 rm_LR_isLength) {post : Int32 → ST → Prop} (hR : RtxZ κ g 2 cX9_isLength M post) {X : ST} {p0 : Int64} (h : wp_LR_isLength X p0 post) : Jw κ g 2 X M [(0, .long p0)] 0 [] := by
  unfold wp_LR_isLength at h
  refine j_lload_n (pc' := 1) hκ 0 rfl rfl dX9_isLength_0 rfl ?_
  refine j_lconst (pc' := 2) (v := 1) hκ (by decide) dX9_isLength_1 rfl ?_
  refine j_lc_lt (tgt := 18) (pc1 := 3) (pc' := 6) hκ dX9_isLength_2 rfl dX9_isLength_3 (by decide) rfl (fun c => ?_) (fun c => ?_)
  · replace h := h.1 c
    refine j_iconst (pc' := 19) (v := 0) hκ (by decide) dX9_isLength_18 rfl ?_
    exact hR _ _ _ _ dX9_isLength_19 (Or.inl rfl) h
  · replace h := h.2 c
    refine j_lload_n (pc' := 7) hκ 0 rfl rfl dX9_isLength_6 rfl ?_
    refine j_ldc2_w (pc' := 10) hκ (mc wm_9_7) dX9_isLength_7 rfl ?_
    refine j_lc_gt (tgt := 18) (pc1 := 11) (pc' := 14) hκ dX9_isLength_10 rfl dX9_isLength_11 (by decide) rfl (fun c => ?_) (fun c => ?_)
    · replace h := h.1 c
      refine j_iconst (pc' := 19) (v := 0) hκ (by decide) dX9_isLength_18 rfl ?_
      exact hR _ _ _ _ dX9_isLength_19 (Or.inl rfl) h
    · replace h := h.2 c
      refine j_iconst (pc' := 15) (v := 1) hκ (by decide) dX9_isLength_14 rfl ?_
      refine j_goto (pc' := 19) hκ (by decide) dX9_isLength_15 ?_
      exact hR _ _ _ _ dX9_isLength_19 (Or.inr rfl) h
theorem c_LR_isLength {g : Gx} (hg : Dg g) {X M : ST} {p0 : Int64} {post : Int32 → ST → Prop} (h : wp_LR_isLength X p0 post) (l : Launch) : Met l yX9_isLength wq_X9_isLength rm_LR_isLength (va_Pc [.long p0] (PU g X M)) (va_Qi post (fun Y t => va_P g.1 vwCl (ww g Y M) t.heap) (wA g)) 0 0 (wA g) :=
  met_xz hg (by decide) rfl [.long p0] rfl (Nat.le_of_ble_eq_true rfl) (fun κ hκ hR => lb_LR_isLength hκ hR h) l
theorem wm_9_4 : Cond.methodLink RX9 87 yX9_isLength ∈ wAll := inr_9 (List.mem_of_getElem? (i := 4) rfl)
theorem wm_9_5 : Cond.static yX9_isLength ∈ wAll := inr_9 (List.mem_of_getElem? (i := 5) rfl)
theorem wm_9_6 : Cond.code yX9_isLength cX9_isLength 2 (some .boolean) ∈ wAll := inr_9 (List.mem_of_getElem? (i := 6) rfl)
theorem hqS_X9_isLength : yX9_isLength.cls ≠ "java/lang/invoke/MethodHandle" ∧ yX9_isLength.cls ≠ "java/lang/invoke/VarHandle" ∧ (parseMethodDescriptor yX9_isLength.desc).map (fun d => d.parameters.length) = some 1 := by decide +kernel
theorem wm_1_20 : Cond.fieldLink RX9 19 "LampRound" "town" "LLampRound$Town;" ∈ wAll := inr_1 (List.mem_of_getElem? (i := 20) rfl)
theorem wm_4_3 : Cond.fieldLink RX7 34 "LampRound$Town" "count" "I" ∈ wAll := inr_4 (List.mem_of_getElem? (i := 3) rfl)
theorem wm_3_19 : Cond.fieldLink RX7 9 "LampRound$Town" "from" "[I" ∈ wAll := inr_3 (List.mem_of_getElem? (i := 19) rfl)
theorem wm_3_20 : Cond.fieldLink RX7 15 "LampRound$Town" "to" "[I" ∈ wAll := inr_3 (List.mem_of_getElem? (i := 20) rfl)
theorem wm_3_21 : Cond.fieldLink RX7 18 "LampRound$Town" "size" "[I" ∈ wAll := inr_3 (List.mem_of_getElem? (i := 21) rfl)
theorem wm_3_23 : Cond.fieldLink RX7 21 "LampRound$Town" "isOpen" "[Z" ∈ wAll := inr_3 (List.mem_of_getElem? (i := 23) rfl)
abbrev rm_Town_build : Room := { frames := 0, cells := 0, slots := 0, locals := 0 }
def wp_Town_build (X : ST) (p1 : Int32) (p2 : Int32) (p3 : Int32) (post : Int32 → ST → Prop) : Prop :=
  ∀ v1 : Int32, v1 = x_Town_count X → vp_in v1 100 ∧ (∀ X2 : ST, X2 = xs_Town_from X (upd (x_Town_from X) v1.toNatClampNeg p1) → vp_in v1 100 ∧ (∀ X3 : ST, X3 = xs_Town_to X2 (upd (x_Town_to X2) v1.toNatClampNeg p2) → vp_in v1 100 ∧ (∀ X4 : ST, X4 = xs_Town_size X3 (upd (x_Town_size X3) v1.toNatClampNeg p3) → vp_in v1 100 ∧ (∀ X5 : ST, X5 = xs_Town_isOpen X4 (upd (x_Town_isOpen X4) v1.toNatClampNeg (vp_nar .boolean 1)) → ∀ X6 : ST, X6 = xs_Town_count X5 ((x_Town_count X5) + 1) → post v1 X6))))
set_option maxHeartbeats 4000000 in
set_option maxRecDepth 100000 in
theorem lb_Town_build {κ : Cx} {g : Gx} {M : ST} (hκ : CF κ g RX7 cX7_build wq_X7_build 5 rm_Town_build) {post : Int32 → ST → Prop} (hR : RtxI κ g 5 cX7_build M post) {X : ST} {p1 : Int32} {p2 : Int32} {p3 : Int32} (h : wp_Town_build X p1 p2 p3 post) : Jw κ g 5 X M [(0, .ref (g.2.1 2)), (1, .int p1), (2, .int p2), (3, .int p3)] 0 [] := by
  unfold wp_Town_build at h
  refine j_aload_n (pc' := 1) hκ 0 rfl rfl dX7_build_0 rfl ?_
  refine jg_2_6 (pc' := 4) hκ (mi inlX7) (fl_in hκ (mc wm_4_3)) dX7_build_1 rfl ?_
  refine j_topi (fun v1 ev1 => ?_)
  replace h := h v1 ev1
  refine j_istore (pc' := 6) (lv' := [(4, .int v1), (0, .ref (g.2.1 2)), (1, .int p1), (2, .int p2), (3, .int p3)]) hκ (Nat.le_of_ble_eq_true rfl) rfl dX7_build_4 rfl ?_
  refine j_aload_n (pc' := 7) hκ 1 rfl rfl dX7_build_6 rfl ?_
  refine jg_2_0 (pc' := 10) hκ (mi inlX7) (fl_in hκ (mc wm_3_19)) dX7_build_7 rfl ?_
  refine j_iload (pc' := 12) hκ 0 rfl dX7_build_10 rfl ?_
  refine j_iload_n (pc' := 13) hκ 2 rfl rfl dX7_build_12 rfl ?_
  refine jx_iast (pc' := 14) hκ (ah_15 g) h.1 dX7_build_13 rfl ?_
  replace h := h.2
  refine j_nmX (fun X2 eX2 => ?_)
  replace h := h X2 eX2
  refine j_aload_n (pc' := 15) hκ 1 rfl rfl dX7_build_14 rfl ?_
  refine jg_2_1 (pc' := 18) hκ (mi inlX7) (fl_in hκ (mc wm_3_20)) dX7_build_15 rfl ?_
  refine j_iload (pc' := 20) hκ 0 rfl dX7_build_18 rfl ?_
  refine j_iload_n (pc' := 21) hκ 3 rfl rfl dX7_build_20 rfl ?_
  refine jx_iast (pc' := 22) hκ (ah_16 g) h.1 dX7_build_21 rfl ?_
  replace h := h.2
  refine j_nmX (fun X3 eX3 => ?_)
  replace h := h X3 eX3
  refine j_aload_n (pc' := 23) hκ 1 rfl rfl dX7_build_22 rfl ?_
  refine jg_2_2 (pc' := 26) hκ (mi inlX7) (fl_in hκ (mc wm_3_21)) dX7_build_23 rfl ?_
  refine j_iload (pc' := 28) hκ 0 rfl dX7_build_26 rfl ?_
  refine j_iload_n (pc' := 29) hκ 4 rfl rfl dX7_build_28 rfl ?_
  refine jx_iast (pc' := 30) hκ (ah_17 g) h.1 dX7_build_29 rfl ?_
  replace h := h.2
  refine j_nmX (fun X4 eX4 => ?_)
  replace h := h X4 eX4
  refine j_aload_n (pc' := 31) hκ 1 rfl rfl dX7_build_30 rfl ?_
  refine jg_2_3 (pc' := 34) hκ (mi inlX7) (fl_in hκ (mc wm_3_23)) dX7_build_31 rfl ?_
  refine j_iload (pc' := 36) hκ 0 rfl dX7_build_34 rfl ?_
  refine j_iconst (pc' := 37) (v := 1) hκ (by decide) dX7_build_36 rfl ?_
  refine jx_zast (pc' := 38) hκ (ah_18 g) h.1 dX7_build_37 rfl ?_
  replace h := h.2
  refine j_nmX (fun X5 eX5 => ?_)
  replace h := h X5 eX5
  refine j_aload_n (pc' := 39) hκ 1 rfl rfl dX7_build_38 rfl ?_
  refine j_dup (pc' := 40) hκ rfl dX7_build_39 rfl ?_
  refine jg_2_6 (pc' := 43) hκ (mi inlX7) (fl_in hκ (mc wm_4_3)) dX7_build_40 rfl ?_
  refine j_iconst (pc' := 44) (v := 1) hκ (by decide) dX7_build_43 rfl ?_
  refine j_iadd (pc' := 45) hκ dX7_build_44 rfl ?_
  refine jp_2_6 (pc' := 48) hκ (mi inlX7) (fl_in hκ (mc wm_4_3)) dX7_build_45 rfl ?_
  refine j_nmX (fun X6 eX6 => ?_)
  replace h := h X6 eX6
  refine j_iload (pc' := 50) hκ 0 rfl dX7_build_48 rfl ?_
  exact hR _ _ _ _ dX7_build_50 h
theorem c_Town_build {g : Gx} (hg : Dg g) {X M : ST} {p1 : Int32} {p2 : Int32} {p3 : Int32} {post : Int32 → ST → Prop} (h : wp_Town_build X p1 p2 p3 post) (l : Launch) : Met l yX7_build wq_X7_build rm_Town_build (va_Pc [.ref (g.2.1 2), .int p1, .int p2, .int p3] (PU g X M)) (va_Qi post (fun Y t => va_P g.1 vwCl (ww g Y M) t.heap) (wA g)) 0 0 (wA g) :=
  met_xi hg (by decide) rfl [.ref (g.2.1 2), .int p1, .int p2, .int p3] rfl (Nat.le_of_ble_eq_true rfl) (fun κ hκ hR => lb_Town_build hκ hR h) l
theorem wm_9_8 : Cond.methodLink RX9 95 yX7_build ∈ wAll := inr_9 (List.mem_of_getElem? (i := 8) rfl)
theorem wm_9_9 : Cond.instanceMethod yX7_build ∈ wAll := inr_9 (List.mem_of_getElem? (i := 9) rfl)
theorem wm_9_10 : Cond.selects RX7 yX7_build yX7_build ∈ wAll := inr_9 (List.mem_of_getElem? (i := 10) rfl)
theorem wm_1_19 : Cond.initialized RX7 ∈ wAll := inr_1 (List.mem_of_getElem? (i := 19) rfl)
theorem wm_9_11 : Cond.code yX7_build cX7_build 5 (some .int) ∈ wAll := inr_9 (List.mem_of_getElem? (i := 11) rfl)
theorem hqV_X7_build : yX7_build.cls = RX7 ∧ yX7_build.cls ≠ "java/lang/invoke/MethodHandle" ∧ yX7_build.cls ≠ "java/lang/invoke/VarHandle" ∧ (parseMethodDescriptor yX7_build.desc).map (fun d => d.parameters.length) = some 3 := by decide +kernel
theorem wm_4_2 : Cond.fieldLink RX7 30 "LampRound$Town" "reckoned" "J" ∈ wAll := inr_4 (List.mem_of_getElem? (i := 2) rfl)
abbrev rm_Town_forgetWays : Room := { frames := 0, cells := 0, slots := 0, locals := 0 }
def wp_Town_forgetWays (X : ST) (post : ST → Prop) : Prop :=
  ∀ X1 : ST, X1 = xs_Town_reckoned X 0 → post X1
set_option maxHeartbeats 4000000 in
set_option maxRecDepth 100000 in
theorem lb_Town_forgetWays {κ : Cx} {g : Gx} {M : ST} (hκ : CF κ g RX7 cX7_forgetWays wq_X7_forgetWays 1 rm_Town_forgetWays) {post : ST → Prop} (hR : RtxV κ g 1 cX7_forgetWays M post) {X : ST} (h : wp_Town_forgetWays X post) : Jw κ g 1 X M [(0, .ref (g.2.1 2))] 0 [] := by
  unfold wp_Town_forgetWays at h
  refine j_aload_n (pc' := 1) hκ 0 rfl rfl dX7_forgetWays_0 rfl ?_
  refine j_lconst (pc' := 2) (v := 0) hκ (by decide) dX7_forgetWays_1 rfl ?_
  refine jp_2_5 (pc' := 5) hκ (mi inlX7) (fl_in hκ (mc wm_4_2)) dX7_forgetWays_2 rfl ?_
  refine j_nmX (fun X1 eX1 => ?_)
  replace h := h X1 eX1
  exact hR _ _ _ dX7_forgetWays_5 h
theorem c_Town_forgetWays {g : Gx} (hg : Dg g) {X M : ST} {post : ST → Prop} (h : wp_Town_forgetWays X post) (l : Launch) : Met l yX7_forgetWays wq_X7_forgetWays rm_Town_forgetWays (va_Pc [.ref (g.2.1 2)] (PU g X M)) (va_Qv post (fun Y t => va_P g.1 vwCl (ww g Y M) t.heap) (wA g)) 0 0 (wA g) :=
  met_xv hg (by decide) rfl [.ref (g.2.1 2)] rfl (Nat.le_of_ble_eq_true rfl) (fun κ hκ hR => lb_Town_forgetWays hκ hR h) l
theorem wm_9_16 : Cond.methodLink RX9 348 yX7_forgetWays ∈ wAll := inr_9 (List.mem_of_getElem? (i := 16) rfl)
theorem wm_9_17 : Cond.instanceMethod yX7_forgetWays ∈ wAll := inr_9 (List.mem_of_getElem? (i := 17) rfl)
theorem wm_9_18 : Cond.selects RX7 yX7_forgetWays yX7_forgetWays ∈ wAll := inr_9 (List.mem_of_getElem? (i := 18) rfl)
theorem wm_9_19 : Cond.code yX7_forgetWays cX7_forgetWays 1 none ∈ wAll := inr_9 (List.mem_of_getElem? (i := 19) rfl)
theorem hqV_X7_forgetWays : yX7_forgetWays.cls = RX7 ∧ yX7_forgetWays.cls ≠ "java/lang/invoke/MethodHandle" ∧ yX7_forgetWays.cls ≠ "java/lang/invoke/VarHandle" ∧ (parseMethodDescriptor yX7_forgetWays.desc).map (fun d => d.parameters.length) = some 0 := by decide +kernel
theorem wm_2_0 : Cond.fieldLink RX9 28 "LampRound" "lamps" "LLampRound$Lamps;" ∈ wAll := inr_2 (List.mem_of_getElem? (i := 0) rfl)
theorem wm_2_4 : Cond.fieldLink RX9 37 "LampRound" "told" "LLampRound$ToldRound;" ∈ wAll := inr_2 (List.mem_of_getElem? (i := 4) rfl)
theorem wm_5_1 : Cond.fieldLink RX6 15 "LampRound$ToldRound" "count" "I" ∈ wAll := inr_5 (List.mem_of_getElem? (i := 1) rfl)
abbrev rm_Told_empty : Room := { frames := 0, cells := 0, slots := 0, locals := 0 }
def wp_Told_empty (X : ST) (post : Int32 → ST → Prop) : Prop :=
  ∀ v1 : Int32, v1 = x_Told_count X → ∀ X2 : ST, X2 = xs_Told_count X 0 → post v1 X2
set_option maxHeartbeats 4000000 in
set_option maxRecDepth 100000 in
theorem lb_Told_empty {κ : Cx} {g : Gx} {M : ST} (hκ : CF κ g RX6 cX6_empty wq_X6_empty 2 rm_Told_empty) {post : Int32 → ST → Prop} (hR : RtxI κ g 2 cX6_empty M post) {X : ST} (h : wp_Told_empty X post) : Jw κ g 2 X M [(0, .ref (g.2.1 4))] 0 [] := by
  unfold wp_Told_empty at h
  refine j_aload_n (pc' := 1) hκ 0 rfl rfl dX6_empty_0 rfl ?_
  refine jg_4_2 (pc' := 4) hκ (mi inlX6) (fl_in hκ (mc wm_5_1)) dX6_empty_1 rfl ?_
  refine j_topi (fun v1 ev1 => ?_)
  replace h := h v1 ev1
  refine j_istore_n (pc' := 5) (lv' := [(1, .int v1), (0, .ref (g.2.1 4))]) hκ (Nat.le_of_ble_eq_true rfl) rfl rfl dX6_empty_4 rfl ?_
  refine j_aload_n (pc' := 6) hκ 1 rfl rfl dX6_empty_5 rfl ?_
  refine j_iconst (pc' := 7) (v := 0) hκ (by decide) dX6_empty_6 rfl ?_
  refine jp_4_2 (pc' := 10) hκ (mi inlX6) (fl_in hκ (mc wm_5_1)) dX6_empty_7 rfl ?_
  refine j_nmX (fun X2 eX2 => ?_)
  replace h := h X2 eX2
  refine j_iload_n (pc' := 11) hκ 0 rfl rfl dX6_empty_10 rfl ?_
  exact hR _ _ _ _ dX6_empty_11 h
theorem c_Told_empty {g : Gx} (hg : Dg g) {X M : ST} {post : Int32 → ST → Prop} (h : wp_Told_empty X post) (l : Launch) : Met l yX6_empty wq_X6_empty rm_Told_empty (va_Pc [.ref (g.2.1 4)] (PU g X M)) (va_Qi post (fun Y t => va_P g.1 vwCl (ww g Y M) t.heap) (wA g)) 0 0 (wA g) :=
  met_xi hg (by decide) rfl [.ref (g.2.1 4)] rfl (Nat.le_of_ble_eq_true rfl) (fun κ hκ hR => lb_Told_empty hκ hR h) l
theorem wm_10_0 : Cond.methodLink RX9 263 yX6_empty ∈ wAll := inr_10 (List.mem_of_getElem? (i := 0) rfl)
theorem wm_10_1 : Cond.instanceMethod yX6_empty ∈ wAll := inr_10 (List.mem_of_getElem? (i := 1) rfl)
theorem wm_10_2 : Cond.selects RX6 yX6_empty yX6_empty ∈ wAll := inr_10 (List.mem_of_getElem? (i := 2) rfl)
theorem wm_2_3 : Cond.initialized RX6 ∈ wAll := inr_2 (List.mem_of_getElem? (i := 3) rfl)
theorem wm_10_3 : Cond.code yX6_empty cX6_empty 2 (some .int) ∈ wAll := inr_10 (List.mem_of_getElem? (i := 3) rfl)
theorem hqV_X6_empty : yX6_empty.cls = RX6 ∧ yX6_empty.cls ≠ "java/lang/invoke/MethodHandle" ∧ yX6_empty.cls ≠ "java/lang/invoke/VarHandle" ∧ (parseMethodDescriptor yX6_empty.desc).map (fun d => d.parameters.length) = some 0 := by decide +kernel
abbrev rm_LR_lampsChanged : Room := { frames := 1, cells := 0, slots := 0, locals := 21 }
def wp_LR_lampsChanged (X : ST) (post : ST → Prop) : Prop :=
  ∀ X1 : ST, X1 = xs_Lamps_surveyed X 0 → wp_Told_empty X1 (fun r3 X2 => post X2)
set_option maxHeartbeats 4000000 in
set_option maxRecDepth 100000 in
theorem lb_LR_lampsChanged {κ : Cx} {g : Gx} {M : ST} (hκ : CF κ g RX9 cX9_lampsChanged wq_X9_lampsChanged 1 rm_LR_lampsChanged) {post : ST → Prop} (hR : RtxV κ g 1 cX9_lampsChanged M post) {X : ST} (h : wp_LR_lampsChanged X post) : Jw κ g 1 X M [(0, .ref (g.2.1 0))] 0 [] := by
  unfold wp_LR_lampsChanged at h
  refine j_aload_n (pc' := 1) hκ 0 rfl rfl dX9_lampsChanged_0 rfl ?_
  refine jg_0_2 (pc' := 4) hκ (mi inlX9) (fl_in hκ (mc wm_2_0)) dX9_lampsChanged_1 rfl ?_
  refine j_iconst (pc' := 5) (v := 0) hκ (by decide) dX9_lampsChanged_4 rfl ?_
  refine jp_3_10 (pc' := 8) hκ (mi inlX2) (fl_ne hκ 28 rfl) (Or.inl rfl) dX9_lampsChanged_5 rfl ?_
  refine j_nmX (fun X1 eX1 => ?_)
  replace h := h X1 eX1
  refine j_aload_n (pc' := 9) hκ 0 rfl rfl dX9_lampsChanged_8 rfl ?_
  refine jg_0_3 (pc' := 12) hκ (mi inlX9) (fl_in hκ (mc wm_2_4)) dX9_lampsChanged_9 rfl ?_
  refine jx_callVi (pc' := 15) hκ (c_Told_empty (dg hκ) h) rfl rfl rfl (gV wm_10_0 wm_10_1 wm_10_2 wm_2_3 wm_10_3) hqV_X6_empty ⟨Nat.le_of_ble_eq_true rfl, Nat.le_of_ble_eq_true rfl⟩ (wg_4 g _ _) rfl rfl rfl (Nat.le_of_ble_eq_true rfl) dX9_lampsChanged_12 rfl (fun r3 X2 h => ?_)
  refine j_pop (pc' := 16) hκ rfl dX9_lampsChanged_15 rfl ?_
  exact hR _ _ _ dX9_lampsChanged_16 h
theorem c_LR_lampsChanged {g : Gx} (hg : Dg g) {X M : ST} {post : ST → Prop} (h : wp_LR_lampsChanged X post) (l : Launch) : Met l yX9_lampsChanged wq_X9_lampsChanged rm_LR_lampsChanged (va_Pc [.ref (g.2.1 0)] (PU g X M)) (va_Qv post (fun Y t => va_P g.1 vwCl (ww g Y M) t.heap) (wA g)) 0 0 (wA g) :=
  met_xv hg (by decide) rfl [.ref (g.2.1 0)] rfl (Nat.le_of_ble_eq_true rfl) (fun κ hκ hR => lb_LR_lampsChanged hκ hR h) l
theorem wm_9_20 : Cond.methodLink RX9 175 yX9_lampsChanged ∈ wAll := inr_9 (List.mem_of_getElem? (i := 20) rfl)
theorem wm_9_21 : Cond.instanceMethod yX9_lampsChanged ∈ wAll := inr_9 (List.mem_of_getElem? (i := 21) rfl)
theorem wm_9_22 : Cond.selects RX9 yX9_lampsChanged yX9_lampsChanged ∈ wAll := inr_9 (List.mem_of_getElem? (i := 22) rfl)
theorem wm_9_23 : Cond.code yX9_lampsChanged cX9_lampsChanged 1 none ∈ wAll := inr_9 (List.mem_of_getElem? (i := 23) rfl)
theorem hqV_X9_lampsChanged : yX9_lampsChanged.cls = RX9 ∧ yX9_lampsChanged.cls ≠ "java/lang/invoke/MethodHandle" ∧ yX9_lampsChanged.cls ≠ "java/lang/invoke/VarHandle" ∧ (parseMethodDescriptor yX9_lampsChanged.desc).map (fun d => d.parameters.length) = some 0 := by decide +kernel
abbrev rm_LR_lanesChanged : Room := { frames := 2, cells := 0, slots := 0, locals := 41 }
def wp_LR_lanesChanged (X : ST) (post : ST → Prop) : Prop :=
  wp_Town_forgetWays X (fun X1 => wp_LR_lampsChanged X1 (fun X3 => post X3))
set_option maxHeartbeats 4000000 in
set_option maxRecDepth 100000 in
theorem lb_LR_lanesChanged {κ : Cx} {g : Gx} {M : ST} (hκ : CF κ g RX9 cX9_lanesChanged wq_X9_lanesChanged 1 rm_LR_lanesChanged) {post : ST → Prop} (hR : RtxV κ g 1 cX9_lanesChanged M post) {X : ST} (h : wp_LR_lanesChanged X post) : Jw κ g 1 X M [(0, .ref (g.2.1 0))] 0 [] := by
  unfold wp_LR_lanesChanged at h
  refine j_aload_n (pc' := 1) hκ 0 rfl rfl dX9_lanesChanged_0 rfl ?_
  refine jg_0_1 (pc' := 4) hκ (mi inlX9) (fl_in hκ (mc wm_1_20)) dX9_lanesChanged_1 rfl ?_
  refine jx_callVv (pc' := 7) hκ (c_Town_forgetWays (dg hκ) h) rfl rfl rfl (gV wm_9_16 wm_9_17 wm_9_18 wm_1_19 wm_9_19) hqV_X7_forgetWays ⟨Nat.le_of_ble_eq_true rfl, Nat.le_of_ble_eq_true rfl⟩ (wg_2 g _ _) rfl rfl rfl (Nat.le_of_ble_eq_true rfl) dX9_lanesChanged_4 rfl (fun X1 h => ?_)
  refine j_aload_n (pc' := 8) hκ 0 rfl rfl dX9_lanesChanged_7 rfl ?_
  refine jx_callVv (pc' := 11) hκ (c_LR_lampsChanged (dg hκ) h) rfl rfl rfl (gV wm_9_20 wm_9_21 wm_9_22 wm_1_2 wm_9_23) hqV_X9_lampsChanged ⟨Nat.le_of_ble_eq_true rfl, Nat.le_of_ble_eq_true rfl⟩ (wg_0 g _ _) rfl rfl rfl (Nat.le_of_ble_eq_true rfl) dX9_lanesChanged_8 rfl (fun X3 h => ?_)
  exact hR _ _ _ dX9_lanesChanged_11 h
theorem c_LR_lanesChanged {g : Gx} (hg : Dg g) {X M : ST} {post : ST → Prop} (h : wp_LR_lanesChanged X post) (l : Launch) : Met l yX9_lanesChanged wq_X9_lanesChanged rm_LR_lanesChanged (va_Pc [.ref (g.2.1 0)] (PU g X M)) (va_Qv post (fun Y t => va_P g.1 vwCl (ww g Y M) t.heap) (wA g)) 0 0 (wA g) :=
  met_xv hg (by decide) rfl [.ref (g.2.1 0)] rfl (Nat.le_of_ble_eq_true rfl) (fun κ hκ hR => lb_LR_lanesChanged hκ hR h) l
theorem wm_9_12 : Cond.methodLink RX9 99 yX9_lanesChanged ∈ wAll := inr_9 (List.mem_of_getElem? (i := 12) rfl)
theorem wm_9_13 : Cond.instanceMethod yX9_lanesChanged ∈ wAll := inr_9 (List.mem_of_getElem? (i := 13) rfl)
theorem wm_9_14 : Cond.selects RX9 yX9_lanesChanged yX9_lanesChanged ∈ wAll := inr_9 (List.mem_of_getElem? (i := 14) rfl)
theorem wm_9_15 : Cond.code yX9_lanesChanged cX9_lanesChanged 1 none ∈ wAll := inr_9 (List.mem_of_getElem? (i := 15) rfl)
theorem hqV_X9_lanesChanged : yX9_lanesChanged.cls = RX9 ∧ yX9_lanesChanged.cls ≠ "java/lang/invoke/MethodHandle" ∧ yX9_lanesChanged.cls ≠ "java/lang/invoke/VarHandle" ∧ (parseMethodDescriptor yX9_lanesChanged.desc).map (fun d => d.parameters.length) = some 0 := by decide +kernel
abbrev rm_LR_lane : Room := { frames := 3, cells := 0, slots := 0, locals := 61 }
def wp_LR_lane (X : ST) (p1 : Int32) (p2 : Int32) (p3 : Int32) (post : Int32 → ST → Prop) : Prop :=
  wp_LR_isCrossing X p1 (fun r2 X1 => (r2 = 0 → (post (-1) X1)) ∧ (¬ r2 = 0 → (wp_LR_isCrossing X1 p2 (fun r4 X3 => (r4 = 0 → (post (-1) X3)) ∧ (¬ r4 = 0 → ((p1 = p2 → (post (-1) X3)) ∧ (¬ p1 = p2 → (wp_LR_isLength X3 (p3.toInt64) (fun r6 X5 => (¬ r6 = 0 → (((x_Town_count X5) < 100 → (wp_Town_build X5 p1 p2 p3 (fun r8 X7 => wp_LR_lanesChanged X7 (fun X9 => post r8 X9)))) ∧ (¬ (x_Town_count X5) < 100 → (post (-2) X5)))) ∧ (r6 = 0 → (post (-1) X5)))))))))))
set_option maxHeartbeats 4000000 in
set_option maxRecDepth 100000 in
theorem lb_LR_lane {κ : Cx} {g : Gx} {M : ST} (hκ : CF κ g RX9 cX9_lane wq_X9_lane 5 rm_LR_lane) {post : Int32 → ST → Prop} (hR : RtxI κ g 5 cX9_lane M post) {X : ST} {p1 : Int32} {p2 : Int32} {p3 : Int32} (h : wp_LR_lane X p1 p2 p3 post) : Jw κ g 5 X M [(0, .ref (g.2.1 0)), (1, .int p1), (2, .int p2), (3, .int p3)] 0 [] := by
  unfold wp_LR_lane at h
  refine j_iload_n (pc' := 1) hκ 1 rfl rfl dX9_lane_0 rfl ?_
  refine jx_callSi (pc' := 4) hκ (c_LR_isCrossing (dg hκ) h) rfl rfl rfl (gS wm_9_1 wm_9_2 wm_1_2 wm_9_3) hqS_X9_isCrossing ⟨Nat.le_of_ble_eq_true rfl, Nat.le_of_ble_eq_true rfl⟩ rfl rfl (Nat.le_of_ble_eq_true rfl) dX9_lane_1 rfl (fun r2 X1 h => ?_)
  refine j_if_eq (tgt := 27) (pc' := 7) hκ dX9_lane_4 (by decide) rfl (fun c => ?_) (fun c => ?_)
  · replace h := h.1 c
    refine j_iconst (pc' := 28) (v := (-1)) hκ (by decide) dX9_lane_27 rfl ?_
    exact hR _ _ _ _ dX9_lane_28 h
  · replace h := h.2 c
    refine j_iload_n (pc' := 8) hκ 2 rfl rfl dX9_lane_7 rfl ?_
    refine jx_callSi (pc' := 11) hκ (c_LR_isCrossing (dg hκ) h) rfl rfl rfl (gS wm_9_1 wm_9_2 wm_1_2 wm_9_3) hqS_X9_isCrossing ⟨Nat.le_of_ble_eq_true rfl, Nat.le_of_ble_eq_true rfl⟩ rfl rfl (Nat.le_of_ble_eq_true rfl) dX9_lane_8 rfl (fun r4 X3 h => ?_)
    refine j_if_eq (tgt := 27) (pc' := 14) hκ dX9_lane_11 (by decide) rfl (fun c => ?_) (fun c => ?_)
    · replace h := h.1 c
      refine j_iconst (pc' := 28) (v := (-1)) hκ (by decide) dX9_lane_27 rfl ?_
      exact hR _ _ _ _ dX9_lane_28 h
    · replace h := h.2 c
      refine j_iload_n (pc' := 15) hκ 1 rfl rfl dX9_lane_14 rfl ?_
      refine j_iload_n (pc' := 16) hκ 2 rfl rfl dX9_lane_15 rfl ?_
      refine j_icmp_eq (tgt := 27) (pc' := 19) hκ dX9_lane_16 (by decide) rfl (fun c => ?_) (fun c => ?_)
      · replace h := h.1 c
        refine j_iconst (pc' := 28) (v := (-1)) hκ (by decide) dX9_lane_27 rfl ?_
        exact hR _ _ _ _ dX9_lane_28 h
      · replace h := h.2 c
        refine j_iload_n (pc' := 20) hκ 3 rfl rfl dX9_lane_19 rfl ?_
        refine j_i2l (pc' := 21) hκ dX9_lane_20 rfl ?_
        refine jx_callSi (pc' := 24) hκ (c_LR_isLength (dg hκ) h) rfl rfl rfl (gS wm_9_4 wm_9_5 wm_1_2 wm_9_6) hqS_X9_isLength ⟨Nat.le_of_ble_eq_true rfl, Nat.le_of_ble_eq_true rfl⟩ rfl rfl (Nat.le_of_ble_eq_true rfl) dX9_lane_21 rfl (fun r6 X5 h => ?_)
        refine j_if_ne (tgt := 29) (pc' := 27) hκ dX9_lane_24 (by decide) rfl (fun c => ?_) (fun c => ?_)
        · replace h := h.1 c
          refine j_aload_n (pc' := 30) hκ 0 rfl rfl dX9_lane_29 rfl ?_
          refine jg_0_1 (pc' := 33) hκ (mi inlX9) (fl_in hκ (mc wm_1_20)) dX9_lane_30 rfl ?_
          refine jg_2_6 (pc' := 36) hκ (mi inlX7) (fl_ne hκ 0 rfl) dX9_lane_33 rfl ?_
          refine j_bipush (pc' := 38) (v := 100) hκ (by decide) dX9_lane_36 rfl ?_
          refine j_icmp_lt (tgt := 44) (pc' := 41) hκ dX9_lane_38 (by decide) rfl (fun c => ?_) (fun c => ?_)
          · replace h := h.1 c
            refine j_aload_n (pc' := 45) hκ 0 rfl rfl dX9_lane_44 rfl ?_
            refine jg_0_1 (pc' := 48) hκ (mi inlX9) (fl_in hκ (mc wm_1_20)) dX9_lane_45 rfl ?_
            refine j_iload_n (pc' := 49) hκ 1 rfl rfl dX9_lane_48 rfl ?_
            refine j_iload_n (pc' := 50) hκ 2 rfl rfl dX9_lane_49 rfl ?_
            refine j_iload_n (pc' := 51) hκ 3 rfl rfl dX9_lane_50 rfl ?_
            refine jx_callVi (pc' := 54) hκ (c_Town_build (dg hκ) h) rfl rfl rfl (gV wm_9_8 wm_9_9 wm_9_10 wm_1_19 wm_9_11) hqV_X7_build ⟨Nat.le_of_ble_eq_true rfl, Nat.le_of_ble_eq_true rfl⟩ (wg_2 g _ _) rfl rfl rfl (Nat.le_of_ble_eq_true rfl) dX9_lane_51 rfl (fun r8 X7 h => ?_)
            refine j_istore (pc' := 56) (lv' := [(4, .int r8), (0, .ref (g.2.1 0)), (1, .int p1), (2, .int p2), (3, .int p3)]) hκ (Nat.le_of_ble_eq_true rfl) rfl dX9_lane_54 rfl ?_
            refine j_aload_n (pc' := 57) hκ 1 rfl rfl dX9_lane_56 rfl ?_
            refine jx_callVv (pc' := 60) hκ (c_LR_lanesChanged (dg hκ) h) rfl rfl rfl (gV wm_9_12 wm_9_13 wm_9_14 wm_1_2 wm_9_15) hqV_X9_lanesChanged ⟨Nat.le_of_ble_eq_true rfl, Nat.le_of_ble_eq_true rfl⟩ (wg_0 g _ _) rfl rfl rfl (Nat.le_of_ble_eq_true rfl) dX9_lane_57 rfl (fun X9 h => ?_)
            refine j_iload (pc' := 62) hκ 0 rfl dX9_lane_60 rfl ?_
            exact hR _ _ _ _ dX9_lane_62 h
          · replace h := h.2 c
            refine j_bipush (pc' := 43) (v := (-2)) hκ (by decide) dX9_lane_41 rfl ?_
            exact hR _ _ _ _ dX9_lane_43 h
        · replace h := h.2 c
          refine j_iconst (pc' := 28) (v := (-1)) hκ (by decide) dX9_lane_27 rfl ?_
          exact hR _ _ _ _ dX9_lane_28 h
theorem c_LR_lane {g : Gx} (hg : Dg g) {X M : ST} {p1 : Int32} {p2 : Int32} {p3 : Int32} {post : Int32 → ST → Prop} (h : wp_LR_lane X p1 p2 p3 post) (l : Launch) : Met l yX9_lane wq_X9_lane rm_LR_lane (va_Pc [.ref (g.2.1 0), .int p1, .int p2, .int p3] (PU g X M)) (va_Qi post (fun Y t => va_P g.1 vwCl (ww g Y M) t.heap) (wA g)) 0 0 (wA g) :=
  met_xi hg (by decide) rfl [.ref (g.2.1 0), .int p1, .int p2, .int p3] rfl (Nat.le_of_ble_eq_true rfl) (fun κ hκ hR => lb_LR_lane hκ hR h) l
abbrev rm_Town_isLane : Room := { frames := 0, cells := 0, slots := 0, locals := 0 }
def wp_Town_isLane (X : ST) (p1 : Int32) (post : Int32 → ST → Prop) : Prop :=
  (p1 < 0 → (post 0 X)) ∧ (¬ p1 < 0 → (((x_Town_count X) ≤ p1 → (post 0 X)) ∧ (¬ (x_Town_count X) ≤ p1 → (post 1 X))))
set_option maxHeartbeats 4000000 in
set_option maxRecDepth 100000 in
theorem lb_Town_isLane {κ : Cx} {g : Gx} {M : ST} (hκ : CF κ g RX7 cX7_isLane wq_X7_isLane 2 rm_Town_isLane) {post : Int32 → ST → Prop} (hR : RtxZ κ g 2 cX7_isLane M post) {X : ST} {p1 : Int32} (h : wp_Town_isLane X p1 post) : Jw κ g 2 X M [(0, .ref (g.2.1 2)), (1, .int p1)] 0 [] := by
  unfold wp_Town_isLane at h
  refine j_iload_n (pc' := 1) hκ 1 rfl rfl dX7_isLane_0 rfl ?_
  refine j_if_lt (tgt := 16) (pc' := 4) hκ dX7_isLane_1 (by decide) rfl (fun c => ?_) (fun c => ?_)
  · replace h := h.1 c
    refine j_iconst (pc' := 17) (v := 0) hκ (by decide) dX7_isLane_16 rfl ?_
    exact hR _ _ _ _ dX7_isLane_17 (Or.inl rfl) h
  · replace h := h.2 c
    refine j_iload_n (pc' := 5) hκ 1 rfl rfl dX7_isLane_4 rfl ?_
    refine j_aload_n (pc' := 6) hκ 0 rfl rfl dX7_isLane_5 rfl ?_
    refine jg_2_6 (pc' := 9) hκ (mi inlX7) (fl_in hκ (mc wm_4_3)) dX7_isLane_6 rfl ?_
    refine j_icmp_ge (tgt := 16) (pc' := 12) hκ dX7_isLane_9 (by decide) rfl (fun c => ?_) (fun c => ?_)
    · replace h := h.1 c
      refine j_iconst (pc' := 17) (v := 0) hκ (by decide) dX7_isLane_16 rfl ?_
      exact hR _ _ _ _ dX7_isLane_17 (Or.inl rfl) h
    · replace h := h.2 c
      refine j_iconst (pc' := 13) (v := 1) hκ (by decide) dX7_isLane_12 rfl ?_
      refine j_goto (pc' := 17) hκ (by decide) dX7_isLane_13 ?_
      exact hR _ _ _ _ dX7_isLane_17 (Or.inr rfl) h
theorem c_Town_isLane {g : Gx} (hg : Dg g) {X M : ST} {p1 : Int32} {post : Int32 → ST → Prop} (h : wp_Town_isLane X p1 post) (l : Launch) : Met l yX7_isLane wq_X7_isLane rm_Town_isLane (va_Pc [.ref (g.2.1 2), .int p1] (PU g X M)) (va_Qi post (fun Y t => va_P g.1 vwCl (ww g Y M) t.heap) (wA g)) 0 0 (wA g) :=
  met_xz hg (by decide) rfl [.ref (g.2.1 2), .int p1] rfl (Nat.le_of_ble_eq_true rfl) (fun κ hκ hR => lb_Town_isLane hκ hR h) l
theorem wm_10_16 : Cond.methodLink RX9 102 yX7_isLane ∈ wAll := inr_10 (List.mem_of_getElem? (i := 16) rfl)
theorem wm_10_17 : Cond.instanceMethod yX7_isLane ∈ wAll := inr_10 (List.mem_of_getElem? (i := 17) rfl)
theorem wm_10_18 : Cond.selects RX7 yX7_isLane yX7_isLane ∈ wAll := inr_10 (List.mem_of_getElem? (i := 18) rfl)
theorem wm_10_19 : Cond.code yX7_isLane cX7_isLane 2 (some .boolean) ∈ wAll := inr_10 (List.mem_of_getElem? (i := 19) rfl)
theorem hqV_X7_isLane : yX7_isLane.cls = RX7 ∧ yX7_isLane.cls ≠ "java/lang/invoke/MethodHandle" ∧ yX7_isLane.cls ≠ "java/lang/invoke/VarHandle" ∧ (parseMethodDescriptor yX7_isLane.desc).map (fun d => d.parameters.length) = some 1 := by decide +kernel
abbrev rm_LR_open : Room := { frames := 3, cells := 0, slots := 0, locals := 61 }
def wp_LR_open (X : ST) (p1 : Int32) (p2 : Int32) (post : Int32 → ST → Prop) : Prop :=
  wp_Town_isLane X p1 (fun r2 X1 => (¬ r2 = 0 → (vp_in p1 100 ∧ ((¬ (x_Town_isOpen X1 p1.toNatClampNeg) = p2 → (vp_in p1 100 ∧ (∀ X3 : ST, X3 = xs_Town_isOpen X1 (upd (x_Town_isOpen X1) p1.toNatClampNeg (vp_nar .boolean p2)) → wp_LR_lanesChanged X3 (fun X4 => post 1 X4)))) ∧ ((x_Town_isOpen X1 p1.toNatClampNeg) = p2 → (post 0 X1))))) ∧ (r2 = 0 → (post (-1) X1)))
set_option maxHeartbeats 4000000 in
set_option maxRecDepth 100000 in
theorem lb_LR_open {κ : Cx} {g : Gx} {M : ST} (hκ : CF κ g RX9 cX9_open wq_X9_open 3 rm_LR_open) {post : Int32 → ST → Prop} (hR : RtxI κ g 3 cX9_open M post) {X : ST} {p1 : Int32} {p2 : Int32} (h : wp_LR_open X p1 p2 post) : Jw κ g 3 X M [(0, .ref (g.2.1 0)), (1, .int p1), (2, .int p2)] 0 [] := by
  unfold wp_LR_open at h
  refine j_aload_n (pc' := 1) hκ 0 rfl rfl dX9_open_0 rfl ?_
  refine jg_0_1 (pc' := 4) hκ (mi inlX9) (fl_in hκ (mc wm_1_20)) dX9_open_1 rfl ?_
  refine j_iload_n (pc' := 5) hκ 1 rfl rfl dX9_open_4 rfl ?_
  refine jx_callVi (pc' := 8) hκ (c_Town_isLane (dg hκ) h) rfl rfl rfl (gV wm_10_16 wm_10_17 wm_10_18 wm_1_19 wm_10_19) hqV_X7_isLane ⟨Nat.le_of_ble_eq_true rfl, Nat.le_of_ble_eq_true rfl⟩ (wg_2 g _ _) rfl rfl rfl (Nat.le_of_ble_eq_true rfl) dX9_open_5 rfl (fun r2 X1 h => ?_)
  refine j_if_ne (tgt := 13) (pc' := 11) hκ dX9_open_8 (by decide) rfl (fun c => ?_) (fun c => ?_)
  · replace h := h.1 c
    refine j_aload_n (pc' := 14) hκ 0 rfl rfl dX9_open_13 rfl ?_
    refine jg_0_1 (pc' := 17) hκ (mi inlX9) (fl_in hκ (mc wm_1_20)) dX9_open_14 rfl ?_
    refine jg_2_3 (pc' := 20) hκ (mi inlX7) (fl_ne hκ 1 rfl) dX9_open_17 rfl ?_
    refine j_iload_n (pc' := 21) hκ 1 rfl rfl dX9_open_20 rfl ?_
    refine jx_zald (pc' := 22) hκ (ah_18 g) h.1 dX9_open_21 rfl ?_
    replace h := h.2
    refine j_iload_n (pc' := 23) hκ 2 rfl rfl dX9_open_22 rfl ?_
    refine j_icmp_ne (tgt := 28) (pc' := 26) hκ dX9_open_23 (by decide) rfl (fun c => ?_) (fun c => ?_)
    · replace h := h.1 c
      refine j_aload_n (pc' := 29) hκ 0 rfl rfl dX9_open_28 rfl ?_
      refine jg_0_1 (pc' := 32) hκ (mi inlX9) (fl_in hκ (mc wm_1_20)) dX9_open_29 rfl ?_
      refine jg_2_3 (pc' := 35) hκ (mi inlX7) (fl_ne hκ 1 rfl) dX9_open_32 rfl ?_
      refine j_iload_n (pc' := 36) hκ 1 rfl rfl dX9_open_35 rfl ?_
      refine j_iload_n (pc' := 37) hκ 2 rfl rfl dX9_open_36 rfl ?_
      refine jx_zast (pc' := 38) hκ (ah_18 g) h.1 dX9_open_37 rfl ?_
      replace h := h.2
      refine j_nmX (fun X3 eX3 => ?_)
      replace h := h X3 eX3
      refine j_aload_n (pc' := 39) hκ 0 rfl rfl dX9_open_38 rfl ?_
      refine jx_callVv (pc' := 42) hκ (c_LR_lanesChanged (dg hκ) h) rfl rfl rfl (gV wm_9_12 wm_9_13 wm_9_14 wm_1_2 wm_9_15) hqV_X9_lanesChanged ⟨Nat.le_of_ble_eq_true rfl, Nat.le_of_ble_eq_true rfl⟩ (wg_0 g _ _) rfl rfl rfl (Nat.le_of_ble_eq_true rfl) dX9_open_39 rfl (fun X4 h => ?_)
      refine j_iconst (pc' := 43) (v := 1) hκ (by decide) dX9_open_42 rfl ?_
      exact hR _ _ _ _ dX9_open_43 h
    · replace h := h.2 c
      refine j_iconst (pc' := 27) (v := 0) hκ (by decide) dX9_open_26 rfl ?_
      exact hR _ _ _ _ dX9_open_27 h
  · replace h := h.2 c
    refine j_iconst (pc' := 12) (v := (-1)) hκ (by decide) dX9_open_11 rfl ?_
    exact hR _ _ _ _ dX9_open_12 h
theorem c_LR_open {g : Gx} (hg : Dg g) {X M : ST} {p1 : Int32} {p2 : Int32} {post : Int32 → ST → Prop} (h : wp_LR_open X p1 p2 post) (l : Launch) : Met l yX9_open wq_X9_open rm_LR_open (va_Pc [.ref (g.2.1 0), .int p1, .int p2] (PU g X M)) (va_Qi post (fun Y t => va_P g.1 vwCl (ww g Y M) t.heap) (wA g)) 0 0 (wA g) :=
  met_xi hg (by decide) rfl [.ref (g.2.1 0), .int p1, .int p2] rfl (Nat.le_of_ble_eq_true rfl) (fun κ hκ hR => lb_LR_open hκ hR h) l
abbrev rm_LR_about : Room := { frames := 1, cells := 0, slots := 0, locals := 21 }
def wp_LR_about (X : ST) (p1 : Int32) (p2 : Int32) (post : Int32 → ST → Prop) : Prop :=
  wp_Town_isLane X p1 (fun r2 X1 => (¬ r2 = 0 → ((p2 = 0 → (vp_in p1 100 ∧ (post (x_Town_from X1 p1.toNatClampNeg) X1))) ∧ (¬ p2 = 0 → ((p2 = 1 → (vp_in p1 100 ∧ (post (x_Town_to X1 p1.toNatClampNeg) X1))) ∧ (¬ p2 = 1 → ((p2 = 2 → (vp_in p1 100 ∧ (post (x_Town_size X1 p1.toNatClampNeg) X1))) ∧ (¬ p2 = 2 → ((p2 = 3 → (vp_in p1 100 ∧ (((x_Town_isOpen X1 p1.toNatClampNeg) = 0 → (post 0 X1)) ∧ (¬ (x_Town_isOpen X1 p1.toNatClampNeg) = 0 → (post 1 X1))))) ∧ (¬ p2 = 3 → (post (-1) X1)))))))))) ∧ (r2 = 0 → (post (-1) X1)))
set_option maxHeartbeats 4000000 in
set_option maxRecDepth 100000 in
theorem lb_LR_about {κ : Cx} {g : Gx} {M : ST} (hκ : CF κ g RX9 cX9_about wq_X9_about 3 rm_LR_about) {post : Int32 → ST → Prop} (hR : RtxI κ g 3 cX9_about M post) {X : ST} {p1 : Int32} {p2 : Int32} (h : wp_LR_about X p1 p2 post) : Jw κ g 3 X M [(0, .ref (g.2.1 0)), (1, .int p1), (2, .int p2)] 0 [] := by
  unfold wp_LR_about at h
  refine j_aload_n (pc' := 1) hκ 0 rfl rfl dX9_about_0 rfl ?_
  refine jg_0_1 (pc' := 4) hκ (mi inlX9) (fl_in hκ (mc wm_1_20)) dX9_about_1 rfl ?_
  refine j_iload_n (pc' := 5) hκ 1 rfl rfl dX9_about_4 rfl ?_
  refine jx_callVi (pc' := 8) hκ (c_Town_isLane (dg hκ) h) rfl rfl rfl (gV wm_10_16 wm_10_17 wm_10_18 wm_1_19 wm_10_19) hqV_X7_isLane ⟨Nat.le_of_ble_eq_true rfl, Nat.le_of_ble_eq_true rfl⟩ (wg_2 g _ _) rfl rfl rfl (Nat.le_of_ble_eq_true rfl) dX9_about_5 rfl (fun r2 X1 h => ?_)
  refine j_if_ne (tgt := 13) (pc' := 11) hκ dX9_about_8 (by decide) rfl (fun c => ?_) (fun c => ?_)
  · replace h := h.1 c
    refine j_iload_n (pc' := 14) hκ 2 rfl rfl dX9_about_13 rfl ?_
    by_cases c0 : p2 = 0
    · replace h := h.1 c0
      refine j_tabEq (v := 0) (tgt := 44) hκ dX9_about_14 c0 (by decide) (by decide) rfl (by decide) ?_
      refine j_aload_n (pc' := 45) hκ 0 rfl rfl dX9_about_44 rfl ?_
      refine jg_0_1 (pc' := 48) hκ (mi inlX9) (fl_in hκ (mc wm_1_20)) dX9_about_45 rfl ?_
      refine jg_2_0 (pc' := 51) hκ (mi inlX7) (fl_ne hκ 2 rfl) dX9_about_48 rfl ?_
      refine j_iload_n (pc' := 52) hκ 1 rfl rfl dX9_about_51 rfl ?_
      refine jx_iald (pc' := 53) hκ (ah_15 g) h.1 dX9_about_52 rfl ?_
      replace h := h.2
      exact hR _ _ _ _ dX9_about_53 h
    replace h := h.2 c0
    by_cases c1 : p2 = 1
    · replace h := h.1 c1
      refine j_tabEq (v := 1) (tgt := 54) hκ dX9_about_14 c1 (by decide) (by decide) rfl (by decide) ?_
      refine j_aload_n (pc' := 55) hκ 0 rfl rfl dX9_about_54 rfl ?_
      refine jg_0_1 (pc' := 58) hκ (mi inlX9) (fl_in hκ (mc wm_1_20)) dX9_about_55 rfl ?_
      refine jg_2_1 (pc' := 61) hκ (mi inlX7) (fl_ne hκ 3 rfl) dX9_about_58 rfl ?_
      refine j_iload_n (pc' := 62) hκ 1 rfl rfl dX9_about_61 rfl ?_
      refine jx_iald (pc' := 63) hκ (ah_16 g) h.1 dX9_about_62 rfl ?_
      replace h := h.2
      exact hR _ _ _ _ dX9_about_63 h
    replace h := h.2 c1
    by_cases c2 : p2 = 2
    · replace h := h.1 c2
      refine j_tabEq (v := 2) (tgt := 64) hκ dX9_about_14 c2 (by decide) (by decide) rfl (by decide) ?_
      refine j_aload_n (pc' := 65) hκ 0 rfl rfl dX9_about_64 rfl ?_
      refine jg_0_1 (pc' := 68) hκ (mi inlX9) (fl_in hκ (mc wm_1_20)) dX9_about_65 rfl ?_
      refine jg_2_2 (pc' := 71) hκ (mi inlX7) (fl_ne hκ 4 rfl) dX9_about_68 rfl ?_
      refine j_iload_n (pc' := 72) hκ 1 rfl rfl dX9_about_71 rfl ?_
      refine jx_iald (pc' := 73) hκ (ah_17 g) h.1 dX9_about_72 rfl ?_
      replace h := h.2
      exact hR _ _ _ _ dX9_about_73 h
    replace h := h.2 c2
    by_cases c3 : p2 = 3
    · replace h := h.1 c3
      refine j_tabEq (v := 3) (tgt := 74) hκ dX9_about_14 c3 (by decide) (by decide) rfl (by decide) ?_
      refine j_aload_n (pc' := 75) hκ 0 rfl rfl dX9_about_74 rfl ?_
      refine jg_0_1 (pc' := 78) hκ (mi inlX9) (fl_in hκ (mc wm_1_20)) dX9_about_75 rfl ?_
      refine jg_2_3 (pc' := 81) hκ (mi inlX7) (fl_ne hκ 1 rfl) dX9_about_78 rfl ?_
      refine j_iload_n (pc' := 82) hκ 1 rfl rfl dX9_about_81 rfl ?_
      refine jx_zald (pc' := 83) hκ (ah_18 g) h.1 dX9_about_82 rfl ?_
      replace h := h.2
      refine j_if_eq (tgt := 90) (pc' := 86) hκ dX9_about_83 (by decide) rfl (fun c => ?_) (fun c => ?_)
      · replace h := h.1 c
        refine j_iconst (pc' := 91) (v := 0) hκ (by decide) dX9_about_90 rfl ?_
        exact hR _ _ _ _ dX9_about_91 h
      · replace h := h.2 c
        refine j_iconst (pc' := 87) (v := 1) hκ (by decide) dX9_about_86 rfl ?_
        refine j_goto (pc' := 91) hκ (by decide) dX9_about_87 ?_
        exact hR _ _ _ _ dX9_about_91 h
    replace h := h.2 c3
    have u0 : ¬ (p2).toInt = 0 := fun e => c0 (Int32.toInt_inj.mp (e.trans (by decide)))
    have u1 : ¬ (p2).toInt = 1 := fun e => c1 (Int32.toInt_inj.mp (e.trans (by decide)))
    have u2 : ¬ (p2).toInt = 2 := fun e => c2 (Int32.toInt_inj.mp (e.trans (by decide)))
    have u3 : ¬ (p2).toInt = 3 := fun e => c3 (Int32.toInt_inj.mp (e.trans (by decide)))
    refine j_tabOut (tgt := 92) hκ dX9_about_14 (by omega) (by decide) ?_
    refine j_iconst (pc' := 93) (v := (-1)) hκ (by decide) dX9_about_92 rfl ?_
    exact hR _ _ _ _ dX9_about_93 h
  · replace h := h.2 c
    refine j_iconst (pc' := 12) (v := (-1)) hκ (by decide) dX9_about_11 rfl ?_
    exact hR _ _ _ _ dX9_about_12 h
theorem c_LR_about {g : Gx} (hg : Dg g) {X M : ST} {p1 : Int32} {p2 : Int32} {post : Int32 → ST → Prop} (h : wp_LR_about X p1 p2 post) (l : Launch) : Met l yX9_about wq_X9_about rm_LR_about (va_Pc [.ref (g.2.1 0), .int p1, .int p2] (PU g X M)) (va_Qi post (fun Y t => va_P g.1 vwCl (ww g Y M) t.heap) (wA g)) 0 0 (wA g) :=
  met_xi hg (by decide) rfl [.ref (g.2.1 0), .int p1, .int p2] rfl (Nat.le_of_ble_eq_true rfl) (fun κ hκ hR => lb_LR_about hκ hR h) l
theorem wm_1_16 : Cond.fieldLink RX9 12 "LampRound" "rows" "LLampRound$Rows;" ∈ wAll := inr_1 (List.mem_of_getElem? (i := 16) rfl)
abbrev rm_Rows_isNumber : Room := { frames := 0, cells := 0, slots := 0, locals := 0 }
def wp_Rows_isNumber (X : ST) (p1 : Int32) (post : Int32 → ST → Prop) : Prop :=
  (p1 < 0 → (post 0 X)) ∧ (¬ p1 < 0 → ((4 ≤ p1 → (post 0 X)) ∧ (¬ 4 ≤ p1 → (post 1 X))))
set_option maxHeartbeats 4000000 in
set_option maxRecDepth 100000 in
theorem lb_Rows_isNumber {κ : Cx} {g : Gx} {M : ST} (hκ : CF κ g RX4 cX4_isNumber wq_X4_isNumber 2 rm_Rows_isNumber) {post : Int32 → ST → Prop} (hR : RtxZ κ g 2 cX4_isNumber M post) {X : ST} {p1 : Int32} (h : wp_Rows_isNumber X p1 post) : Jw κ g 2 X M [(0, .ref (g.2.1 1)), (1, .int p1)] 0 [] := by
  unfold wp_Rows_isNumber at h
  refine j_iload_n (pc' := 1) hκ 1 rfl rfl dX4_isNumber_0 rfl ?_
  refine j_if_lt (tgt := 13) (pc' := 4) hκ dX4_isNumber_1 (by decide) rfl (fun c => ?_) (fun c => ?_)
  · replace h := h.1 c
    refine j_iconst (pc' := 14) (v := 0) hκ (by decide) dX4_isNumber_13 rfl ?_
    exact hR _ _ _ _ dX4_isNumber_14 (Or.inl rfl) h
  · replace h := h.2 c
    refine j_iload_n (pc' := 5) hκ 1 rfl rfl dX4_isNumber_4 rfl ?_
    refine j_iconst (pc' := 6) (v := 4) hκ (by decide) dX4_isNumber_5 rfl ?_
    refine j_icmp_ge (tgt := 13) (pc' := 9) hκ dX4_isNumber_6 (by decide) rfl (fun c => ?_) (fun c => ?_)
    · replace h := h.1 c
      refine j_iconst (pc' := 14) (v := 0) hκ (by decide) dX4_isNumber_13 rfl ?_
      exact hR _ _ _ _ dX4_isNumber_14 (Or.inl rfl) h
    · replace h := h.2 c
      refine j_iconst (pc' := 10) (v := 1) hκ (by decide) dX4_isNumber_9 rfl ?_
      refine j_goto (pc' := 14) hκ (by decide) dX4_isNumber_10 ?_
      exact hR _ _ _ _ dX4_isNumber_14 (Or.inr rfl) h
theorem c_Rows_isNumber {g : Gx} (hg : Dg g) {X M : ST} {p1 : Int32} {post : Int32 → ST → Prop} (h : wp_Rows_isNumber X p1 post) (l : Launch) : Met l yX4_isNumber wq_X4_isNumber rm_Rows_isNumber (va_Pc [.ref (g.2.1 1), .int p1] (PU g X M)) (va_Qi post (fun Y t => va_P g.1 vwCl (ww g Y M) t.heap) (wA g)) 0 0 (wA g) :=
  met_xz hg (by decide) rfl [.ref (g.2.1 1), .int p1] rfl (Nat.le_of_ble_eq_true rfl) (fun κ hκ hR => lb_Rows_isNumber hκ hR h) l
theorem wm_11_16 : Cond.methodLink RX9 119 yX4_isNumber ∈ wAll := inr_11 (List.mem_of_getElem? (i := 16) rfl)
theorem wm_11_17 : Cond.instanceMethod yX4_isNumber ∈ wAll := inr_11 (List.mem_of_getElem? (i := 17) rfl)
theorem wm_11_18 : Cond.selects RX4 yX4_isNumber yX4_isNumber ∈ wAll := inr_11 (List.mem_of_getElem? (i := 18) rfl)
theorem wm_1_15 : Cond.initialized RX4 ∈ wAll := inr_1 (List.mem_of_getElem? (i := 15) rfl)
theorem wm_11_19 : Cond.code yX4_isNumber cX4_isNumber 2 (some .boolean) ∈ wAll := inr_11 (List.mem_of_getElem? (i := 19) rfl)
theorem hqV_X4_isNumber : yX4_isNumber.cls = RX4 ∧ yX4_isNumber.cls ≠ "java/lang/invoke/MethodHandle" ∧ yX4_isNumber.cls ≠ "java/lang/invoke/VarHandle" ∧ (parseMethodDescriptor yX4_isNumber.desc).map (fun d => d.parameters.length) = some 1 := by decide +kernel
theorem wm_3_10 : Cond.fieldLink RX4 16 "LampRound$Rows" "kinds" "[I" ∈ wAll := inr_3 (List.mem_of_getElem? (i := 10) rfl)
theorem wm_3_11 : Cond.fieldLink RX4 20 "LampRound$Rows" "sizes" "[I" ∈ wAll := inr_3 (List.mem_of_getElem? (i := 11) rfl)
theorem wm_3_8 : Cond.fieldLink RX4 11 "LampRound$Rows" "cells" "[[J" ∈ wAll := inr_3 (List.mem_of_getElem? (i := 8) rfl)
abbrev rm_arr_fillJ : Room := { frames := 0, cells := 0, slots := 0, locals := 0 }
def wp_arr_fillJ_6_s (k0 n0 : Nat) (K22 : ST → Prop) (post : ST → Prop) (rec : ST → Int64 → Int32 → Int32 → Prop) (X : ST) (l1 : Int64) (l3 : Int32) (l4 : Int32) : Prop :=
  (l4 ≤ l3 → (K22 X)) ∧ (¬ l4 ≤ l3 → (vp_in l3 n0 ∧ (∀ X2 : ST, X2 = ks_sB X k0 (vp_updL (X.2.2.2 k0) l3.toNatClampNeg l1) → rec X2 l1 (l3 + 1) l4)))
def wp_arr_fillJ_6 (k0 n0 : Nat) (K22 : ST → Prop) (post : ST → Prop) : Nat → ST → Int64 → Int32 → Int32 → Prop
  | 0 => fun _ _ _ _ => False
  | n + 1 => wp_arr_fillJ_6_s k0 n0 K22 post (wp_arr_fillJ_6 k0 n0 K22 post n)
set_option maxHeartbeats 4000000 in
set_option maxRecDepth 100000 in
theorem lb_arr_fillJ_6 {κ : Cx} {g : Gx} {M : ST} (hκ : CF κ g RJ7 cJ7_fill_d0a16 wq_J7_fill_d0a16 5 rm_arr_fillJ) {post : ST → Prop} (hR : RtxV κ g 5 cJ7_fill_d0a16 M post) {a0 q0 k0 n0 : Nat} (hh0 : ahJ g q0 k0 n0 a0) {K22 : ST → Prop} (hK22 : ∀ (X : ST), K22 X → Jw κ g 5 X M [] 22 []) : ∀ (n : Nat) (X : ST) (l1 : Int64) (l3 : Int32) (l4 : Int32), wp_arr_fillJ_6 k0 n0 K22 post n X l1 l3 l4 → Jw κ g 5 X M [(0, .ref a0), (1, .long l1), (3, .int l3), (4, .int l4)] 6 [] := by
  intro n
  induction n with
  | zero =>
    intro X l1 l3 l4  h
    exact h.elim
  | succ n ih =>
    intro X l1 l3 l4  h
    have h : wp_arr_fillJ_6_s k0 n0 K22 post (wp_arr_fillJ_6 k0 n0 K22 post n) X l1 l3 l4 := h
    unfold wp_arr_fillJ_6_s at h
    refine j_iload_n (pc' := 7) hκ 2 rfl rfl dJ7_fill_d0a16_6 rfl ?_
    refine j_iload (pc' := 9) hκ 3 rfl dJ7_fill_d0a16_7 rfl ?_
    refine j_icmp_ge (tgt := 22) (pc' := 12) hκ dJ7_fill_d0a16_9 (by decide) rfl (fun c => ?_) (fun c => ?_)
    · replace h := h.1 c
      refine j_sub [] rfl ?_
      exact hK22 _  h
    · replace h := h.2 c
      refine j_aload_n (pc' := 13) hκ 0 rfl rfl dJ7_fill_d0a16_12 rfl ?_
      refine j_iload_n (pc' := 14) hκ 2 rfl rfl dJ7_fill_d0a16_13 rfl ?_
      refine j_lload_n (pc' := 15) hκ 1 rfl rfl dJ7_fill_d0a16_14 rfl ?_
      refine jx_last (pc' := 16) hκ hh0 h.1 dJ7_fill_d0a16_15 rfl ?_
      replace h := h.2
      refine j_nmX (fun X2 eX2 => ?_)
      replace h := h X2 eX2
      refine j_iinc (pc' := 19) (v := l3 + 1) (lv' := [(3, .int (l3 + 1)), (0, .ref a0), (1, .long l1), (4, .int l4)]) hκ 2 rfl rfl (Nat.le_of_ble_eq_true rfl) rfl dJ7_fill_d0a16_16 rfl ?_
      refine j_goto (pc' := 6) hκ (by decide) dJ7_fill_d0a16_19 ?_
      refine j_sub [1, 2, 0, 3] rfl ?_
      exact ih _ _ _ _  h
def wp_arr_fillJ (X : ST) (k0 n0 : Nat) (p1 : Int64) (post : ST → Prop) : Prop :=
  ∀ v1 : Int32, v1 = Int32.ofNat n0 → ∃ n, wp_arr_fillJ_6 k0 n0 (fun X3 => post X3) post n X p1 0 v1
set_option maxHeartbeats 4000000 in
set_option maxRecDepth 100000 in
theorem lb_arr_fillJ {κ : Cx} {g : Gx} {M : ST} (hκ : CF κ g RJ7 cJ7_fill_d0a16 wq_J7_fill_d0a16 5 rm_arr_fillJ) {post : ST → Prop} (hR : RtxV κ g 5 cJ7_fill_d0a16 M post) {X : ST} {k0 n0 : Nat} {p1 : Int64} {a0 q0 : Nat} (hh0 : ahJ g q0 k0 n0 a0) (h : wp_arr_fillJ X k0 n0 p1 post) : Jw κ g 5 X M [(0, .ref a0), (1, .long p1)] 0 [] := by
  unfold wp_arr_fillJ at h
  refine j_iconst (pc' := 1) (v := 0) hκ (by decide) dJ7_fill_d0a16_0 rfl ?_
  refine j_istore_n (pc' := 2) (lv' := [(3, .int 0), (0, .ref a0), (1, .long p1)]) hκ (Nat.le_of_ble_eq_true rfl) rfl rfl dJ7_fill_d0a16_1 rfl ?_
  refine j_aload_n (pc' := 3) hκ 1 rfl rfl dJ7_fill_d0a16_2 rfl ?_
  refine jx_alenJ (pc' := 4) hκ hh0 dJ7_fill_d0a16_3 rfl ?_
  refine j_topi (fun v1 ev1 => ?_)
  replace h := h v1 ev1
  refine j_istore (pc' := 6) (lv' := [(4, .int v1), (3, .int 0), (0, .ref a0), (1, .long p1)]) hκ (Nat.le_of_ble_eq_true rfl) rfl dJ7_fill_d0a16_4 rfl ?_
  obtain ⟨n, h⟩ := h
  refine j_sub [2, 3, 1, 0] rfl ?_
  refine lb_arr_fillJ_6 hκ hR hh0 ?_ n _ _ _ _  h
  intro X3  h
  exact hR _ _ _ dJ7_fill_d0a16_22 h
theorem c_arr_fillJ {g : Gx} (hg : Dg g) {X M : ST} {k0 n0 : Nat} {p1 : Int64} {a0 q0 : Nat} (hh0 : ahJ g q0 k0 n0 a0) {post : ST → Prop} (h : wp_arr_fillJ X k0 n0 p1 post) (l : Launch) : Met l yJ7_fill_d0a16 wq_J7_fill_d0a16 rm_arr_fillJ (va_Pc [.ref a0, .long p1] (PU g X M)) (va_Qv post (fun Y t => va_P g.1 vwCl (ww g Y M) t.heap) (wA g)) 0 0 (wA g) :=
  met_xv hg (by decide) rfl [.ref a0, .long p1] rfl (Nat.le_of_ble_eq_true rfl) (fun κ hκ hR => lb_arr_fillJ hκ hR hh0 h) l
theorem wm_12_0 : Cond.methodLink RX4 29 yJ7_fill_d0a16 ∈ wAll := inr_12 (List.mem_of_getElem? (i := 0) rfl)
theorem wm_12_1 : Cond.static yJ7_fill_d0a16 ∈ wAll := inr_12 (List.mem_of_getElem? (i := 1) rfl)
theorem wm_3_14 : Cond.initialized RJ7 ∈ wAll := inr_3 (List.mem_of_getElem? (i := 14) rfl)
theorem wm_12_2 : Cond.code yJ7_fill_d0a16 cJ7_fill_d0a16 5 none ∈ wAll := inr_12 (List.mem_of_getElem? (i := 2) rfl)
theorem hqS_J7_fill_d0a16 : yJ7_fill_d0a16.cls ≠ "java/lang/invoke/MethodHandle" ∧ yJ7_fill_d0a16.cls ≠ "java/lang/invoke/VarHandle" ∧ (parseMethodDescriptor yJ7_fill_d0a16.desc).map (fun d => d.parameters.length) = some 2 := by decide +kernel
abbrev rm_Rows_make : Room := { frames := 1, cells := 0, slots := 0, locals := 24 }
def wp_Rows_make (X : ST) (p1 : Int32) (p2 : Int32) (p3 : Int32) (post : ST → Prop) : Prop :=
  vp_in p1 4 ∧ (∀ X1 : ST, X1 = xs_Rows_kinds X (upd (x_Rows_kinds X) p1.toNatClampNeg p2) → vp_in p1 4 ∧ (∀ X2 : ST, X2 = xs_Rows_sizes X1 (upd (x_Rows_sizes X1) p1.toNatClampNeg p3) → vp_in p1 4 ∧ (wp_arr_fillJ X2 (p1.toNatClampNeg + 300) 50 1 (fun X4 => post X4))))
set_option maxHeartbeats 4000000 in
set_option maxRecDepth 100000 in
theorem lb_Rows_make {κ : Cx} {g : Gx} {M : ST} (hκ : CF κ g RX4 cX4_make wq_X4_make 4 rm_Rows_make) {post : ST → Prop} (hR : RtxV κ g 4 cX4_make M post) {X : ST} {p1 : Int32} {p2 : Int32} {p3 : Int32} (h : wp_Rows_make X p1 p2 p3 post) : Jw κ g 4 X M [(0, .ref (g.2.1 1)), (1, .int p1), (2, .int p2), (3, .int p3)] 0 [] := by
  unfold wp_Rows_make at h
  refine j_aload_n (pc' := 1) hκ 0 rfl rfl dX4_make_0 rfl ?_
  refine jg_1_1 (pc' := 4) hκ (mi inlX4) (fl_in hκ (mc wm_3_10)) dX4_make_1 rfl ?_
  refine j_iload_n (pc' := 5) hκ 1 rfl rfl dX4_make_4 rfl ?_
  refine j_iload_n (pc' := 6) hκ 2 rfl rfl dX4_make_5 rfl ?_
  refine jx_iast (pc' := 7) hκ (ah_13 g) h.1 dX4_make_6 rfl ?_
  replace h := h.2
  refine j_nmX (fun X1 eX1 => ?_)
  replace h := h X1 eX1
  refine j_aload_n (pc' := 8) hκ 0 rfl rfl dX4_make_7 rfl ?_
  refine jg_1_2 (pc' := 11) hκ (mi inlX4) (fl_in hκ (mc wm_3_11)) dX4_make_8 rfl ?_
  refine j_iload_n (pc' := 12) hκ 1 rfl rfl dX4_make_11 rfl ?_
  refine j_iload_n (pc' := 13) hκ 3 rfl rfl dX4_make_12 rfl ?_
  refine jx_iast (pc' := 14) hκ (ah_14 g) h.1 dX4_make_13 rfl ?_
  replace h := h.2
  refine j_nmX (fun X2 eX2 => ?_)
  replace h := h X2 eX2
  refine j_aload_n (pc' := 15) hκ 0 rfl rfl dX4_make_14 rfl ?_
  refine jg_1_0 (pc' := 18) hκ (mi inlX4) (fl_in hκ (mc wm_3_8)) dX4_make_15 rfl ?_
  refine j_iload_n (pc' := 19) hκ 1 rfl rfl dX4_make_18 rfl ?_
  refine j_aald (pc' := 20) (q := 12) (t := 4) hκ (wg_12 g _ _) rfl h.1 dX4_make_19 rfl ?_
  have hr3 : p1.toNatClampNeg < 4 := Nat.not_le.mp fun q => h.1 (Or.inr q)
  replace h := h.2
  refine j_lconst (pc' := 21) (v := 1) hκ (by decide) dX4_make_20 rfl ?_
  refine jx_callSv (pc' := 24) hκ (c_arr_fillJ (dg hκ) (ah_cells g hr3) h) rfl rfl rfl (gS wm_12_0 wm_12_1 wm_3_14 wm_12_2) hqS_J7_fill_d0a16 ⟨Nat.le_of_ble_eq_true rfl, Nat.le_of_ble_eq_true rfl⟩ rfl rfl (Nat.le_of_ble_eq_true rfl) dX4_make_21 rfl (fun X4 h => ?_)
  exact hR _ _ _ dX4_make_24 h
theorem c_Rows_make {g : Gx} (hg : Dg g) {X M : ST} {p1 : Int32} {p2 : Int32} {p3 : Int32} {post : ST → Prop} (h : wp_Rows_make X p1 p2 p3 post) (l : Launch) : Met l yX4_make wq_X4_make rm_Rows_make (va_Pc [.ref (g.2.1 1), .int p1, .int p2, .int p3] (PU g X M)) (va_Qv post (fun Y t => va_P g.1 vwCl (ww g Y M) t.heap) (wA g)) 0 0 (wA g) :=
  met_xv hg (by decide) rfl [.ref (g.2.1 1), .int p1, .int p2, .int p3] rfl (Nat.le_of_ble_eq_true rfl) (fun κ hκ hR => lb_Rows_make hκ hR h) l
theorem wm_11_20 : Cond.methodLink RX9 122 yX4_make ∈ wAll := inr_11 (List.mem_of_getElem? (i := 20) rfl)
theorem wm_11_21 : Cond.instanceMethod yX4_make ∈ wAll := inr_11 (List.mem_of_getElem? (i := 21) rfl)
theorem wm_11_22 : Cond.selects RX4 yX4_make yX4_make ∈ wAll := inr_11 (List.mem_of_getElem? (i := 22) rfl)
theorem wm_11_23 : Cond.code yX4_make cX4_make 4 none ∈ wAll := inr_11 (List.mem_of_getElem? (i := 23) rfl)
theorem hqV_X4_make : yX4_make.cls = RX4 ∧ yX4_make.cls ≠ "java/lang/invoke/MethodHandle" ∧ yX4_make.cls ≠ "java/lang/invoke/VarHandle" ∧ (parseMethodDescriptor yX4_make.desc).map (fun d => d.parameters.length) = some 3 := by decide +kernel
abbrev rm_LR_row : Room := { frames := 2, cells := 0, slots := 0, locals := 47 }
def wp_LR_row (X : ST) (p1 : Int32) (p2 : Int32) (p3 : Int32) (post : Int32 → ST → Prop) : Prop :=
  wp_Rows_isNumber X p1 (fun r2 X1 => (r2 = 0 → (post (-1) X1)) ∧ (¬ r2 = 0 → ((p2 < 0 → (post (-1) X1)) ∧ (¬ p2 < 0 → ((p2 ≤ 2 → ((0 ≤ p3 → ((p3 ≤ 50 → (wp_Rows_make X1 p1 p2 p3 (fun X3 => post 1 X3))) ∧ (¬ p3 ≤ 50 → (post (-1) X1)))) ∧ (¬ 0 ≤ p3 → (post (-6) X1)))) ∧ (¬ p2 ≤ 2 → (post (-1) X1)))))))
set_option maxHeartbeats 4000000 in
set_option maxRecDepth 100000 in
theorem lb_LR_row {κ : Cx} {g : Gx} {M : ST} (hκ : CF κ g RX9 cX9_row wq_X9_row 4 rm_LR_row) {post : Int32 → ST → Prop} (hR : RtxI κ g 4 cX9_row M post) {X : ST} {p1 : Int32} {p2 : Int32} {p3 : Int32} (h : wp_LR_row X p1 p2 p3 post) : Jw κ g 4 X M [(0, .ref (g.2.1 0)), (1, .int p1), (2, .int p2), (3, .int p3)] 0 [] := by
  unfold wp_LR_row at h
  refine j_aload_n (pc' := 1) hκ 0 rfl rfl dX9_row_0 rfl ?_
  refine jg_0_0 (pc' := 4) hκ (mi inlX9) (fl_in hκ (mc wm_1_16)) dX9_row_1 rfl ?_
  refine j_iload_n (pc' := 5) hκ 1 rfl rfl dX9_row_4 rfl ?_
  refine jx_callVi (pc' := 8) hκ (c_Rows_isNumber (dg hκ) h) rfl rfl rfl (gV wm_11_16 wm_11_17 wm_11_18 wm_1_15 wm_11_19) hqV_X4_isNumber ⟨Nat.le_of_ble_eq_true rfl, Nat.le_of_ble_eq_true rfl⟩ (wg_1 g _ _) rfl rfl rfl (Nat.le_of_ble_eq_true rfl) dX9_row_5 rfl (fun r2 X1 h => ?_)
  refine j_if_eq (tgt := 20) (pc' := 11) hκ dX9_row_8 (by decide) rfl (fun c => ?_) (fun c => ?_)
  · replace h := h.1 c
    refine j_iconst (pc' := 21) (v := (-1)) hκ (by decide) dX9_row_20 rfl ?_
    exact hR _ _ _ _ dX9_row_21 h
  · replace h := h.2 c
    refine j_iload_n (pc' := 12) hκ 2 rfl rfl dX9_row_11 rfl ?_
    refine j_if_lt (tgt := 20) (pc' := 15) hκ dX9_row_12 (by decide) rfl (fun c => ?_) (fun c => ?_)
    · replace h := h.1 c
      refine j_iconst (pc' := 21) (v := (-1)) hκ (by decide) dX9_row_20 rfl ?_
      exact hR _ _ _ _ dX9_row_21 h
    · replace h := h.2 c
      refine j_iload_n (pc' := 16) hκ 2 rfl rfl dX9_row_15 rfl ?_
      refine j_iconst (pc' := 17) (v := 2) hκ (by decide) dX9_row_16 rfl ?_
      refine j_icmp_le (tgt := 22) (pc' := 20) hκ dX9_row_17 (by decide) rfl (fun c => ?_) (fun c => ?_)
      · replace h := h.1 c
        refine j_iload_n (pc' := 23) hκ 3 rfl rfl dX9_row_22 rfl ?_
        refine j_if_ge (tgt := 29) (pc' := 26) hκ dX9_row_23 (by decide) rfl (fun c => ?_) (fun c => ?_)
        · replace h := h.1 c
          refine j_iload_n (pc' := 30) hκ 3 rfl rfl dX9_row_29 rfl ?_
          refine j_bipush (pc' := 32) (v := 50) hκ (by decide) dX9_row_30 rfl ?_
          refine j_icmp_le (tgt := 37) (pc' := 35) hκ dX9_row_32 (by decide) rfl (fun c => ?_) (fun c => ?_)
          · replace h := h.1 c
            refine j_aload_n (pc' := 38) hκ 0 rfl rfl dX9_row_37 rfl ?_
            refine jg_0_0 (pc' := 41) hκ (mi inlX9) (fl_in hκ (mc wm_1_16)) dX9_row_38 rfl ?_
            refine j_iload_n (pc' := 42) hκ 1 rfl rfl dX9_row_41 rfl ?_
            refine j_iload_n (pc' := 43) hκ 2 rfl rfl dX9_row_42 rfl ?_
            refine j_iload_n (pc' := 44) hκ 3 rfl rfl dX9_row_43 rfl ?_
            refine jx_callVv (pc' := 47) hκ (c_Rows_make (dg hκ) h) rfl rfl rfl (gV wm_11_20 wm_11_21 wm_11_22 wm_1_15 wm_11_23) hqV_X4_make ⟨Nat.le_of_ble_eq_true rfl, Nat.le_of_ble_eq_true rfl⟩ (wg_1 g _ _) rfl rfl rfl (Nat.le_of_ble_eq_true rfl) dX9_row_44 rfl (fun X3 h => ?_)
            refine j_iconst (pc' := 48) (v := 1) hκ (by decide) dX9_row_47 rfl ?_
            exact hR _ _ _ _ dX9_row_48 h
          · replace h := h.2 c
            refine j_iconst (pc' := 36) (v := (-1)) hκ (by decide) dX9_row_35 rfl ?_
            exact hR _ _ _ _ dX9_row_36 h
        · replace h := h.2 c
          refine j_bipush (pc' := 28) (v := (-6)) hκ (by decide) dX9_row_26 rfl ?_
          exact hR _ _ _ _ dX9_row_28 h
      · replace h := h.2 c
        refine j_iconst (pc' := 21) (v := (-1)) hκ (by decide) dX9_row_20 rfl ?_
        exact hR _ _ _ _ dX9_row_21 h
theorem c_LR_row {g : Gx} (hg : Dg g) {X M : ST} {p1 : Int32} {p2 : Int32} {p3 : Int32} {post : Int32 → ST → Prop} (h : wp_LR_row X p1 p2 p3 post) (l : Launch) : Met l yX9_row wq_X9_row rm_LR_row (va_Pc [.ref (g.2.1 0), .int p1, .int p2, .int p3] (PU g X M)) (va_Qi post (fun Y t => va_P g.1 vwCl (ww g Y M) t.heap) (wA g)) 0 0 (wA g) :=
  met_xi hg (by decide) rfl [.ref (g.2.1 0), .int p1, .int p2, .int p3] rfl (Nat.le_of_ble_eq_true rfl) (fun κ hκ hR => lb_LR_row hκ hR h) l
abbrev rm_Rows_isMissing : Room := { frames := 0, cells := 0, slots := 0, locals := 0 }
def wp_Rows_isMissing (X : ST) (p1 : Int32) (post : Int32 → ST → Prop) : Prop :=
  vp_in p1 4 ∧ ((¬ (x_Rows_sizes X p1.toNatClampNeg) = (-1) → (post 0 X)) ∧ ((x_Rows_sizes X p1.toNatClampNeg) = (-1) → (post 1 X)))
set_option maxHeartbeats 4000000 in
set_option maxRecDepth 100000 in
theorem lb_Rows_isMissing {κ : Cx} {g : Gx} {M : ST} (hκ : CF κ g RX4 cX4_isMissing wq_X4_isMissing 2 rm_Rows_isMissing) {post : Int32 → ST → Prop} (hR : RtxZ κ g 2 cX4_isMissing M post) {X : ST} {p1 : Int32} (h : wp_Rows_isMissing X p1 post) : Jw κ g 2 X M [(0, .ref (g.2.1 1)), (1, .int p1)] 0 [] := by
  unfold wp_Rows_isMissing at h
  refine j_aload_n (pc' := 1) hκ 0 rfl rfl dX4_isMissing_0 rfl ?_
  refine jg_1_2 (pc' := 4) hκ (mi inlX4) (fl_in hκ (mc wm_3_11)) dX4_isMissing_1 rfl ?_
  refine j_iload_n (pc' := 5) hκ 1 rfl rfl dX4_isMissing_4 rfl ?_
  refine jx_iald (pc' := 6) hκ (ah_14 g) h.1 dX4_isMissing_5 rfl ?_
  replace h := h.2
  refine j_iconst (pc' := 7) (v := (-1)) hκ (by decide) dX4_isMissing_6 rfl ?_
  refine j_icmp_ne (tgt := 14) (pc' := 10) hκ dX4_isMissing_7 (by decide) rfl (fun c => ?_) (fun c => ?_)
  · replace h := h.1 c
    refine j_iconst (pc' := 15) (v := 0) hκ (by decide) dX4_isMissing_14 rfl ?_
    exact hR _ _ _ _ dX4_isMissing_15 (Or.inl rfl) h
  · replace h := h.2 c
    refine j_iconst (pc' := 11) (v := 1) hκ (by decide) dX4_isMissing_10 rfl ?_
    refine j_goto (pc' := 15) hκ (by decide) dX4_isMissing_11 ?_
    exact hR _ _ _ _ dX4_isMissing_15 (Or.inr rfl) h
theorem c_Rows_isMissing {g : Gx} (hg : Dg g) {X M : ST} {p1 : Int32} {post : Int32 → ST → Prop} (h : wp_Rows_isMissing X p1 post) (l : Launch) : Met l yX4_isMissing wq_X4_isMissing rm_Rows_isMissing (va_Pc [.ref (g.2.1 1), .int p1] (PU g X M)) (va_Qi post (fun Y t => va_P g.1 vwCl (ww g Y M) t.heap) (wA g)) 0 0 (wA g) :=
  met_xz hg (by decide) rfl [.ref (g.2.1 1), .int p1] rfl (Nat.le_of_ble_eq_true rfl) (fun κ hκ hR => lb_Rows_isMissing hκ hR h) l
theorem wm_12_14 : Cond.methodLink RX9 126 yX4_isMissing ∈ wAll := inr_12 (List.mem_of_getElem? (i := 14) rfl)
theorem wm_12_15 : Cond.instanceMethod yX4_isMissing ∈ wAll := inr_12 (List.mem_of_getElem? (i := 15) rfl)
theorem wm_12_16 : Cond.selects RX4 yX4_isMissing yX4_isMissing ∈ wAll := inr_12 (List.mem_of_getElem? (i := 16) rfl)
theorem wm_12_17 : Cond.code yX4_isMissing cX4_isMissing 2 (some .boolean) ∈ wAll := inr_12 (List.mem_of_getElem? (i := 17) rfl)
theorem hqV_X4_isMissing : yX4_isMissing.cls = RX4 ∧ yX4_isMissing.cls ≠ "java/lang/invoke/MethodHandle" ∧ yX4_isMissing.cls ≠ "java/lang/invoke/VarHandle" ∧ (parseMethodDescriptor yX4_isMissing.desc).map (fun d => d.parameters.length) = some 1 := by decide +kernel
abbrev rm_Rows_hasCell : Room := { frames := 0, cells := 0, slots := 0, locals := 0 }
def wp_Rows_hasCell (X : ST) (p1 : Int32) (p2 : Int32) (post : Int32 → ST → Prop) : Prop :=
  (p2 < 0 → (post 0 X)) ∧ (¬ p2 < 0 → (vp_in p1 4 ∧ (((x_Rows_sizes X p1.toNatClampNeg) ≤ p2 → (post 0 X)) ∧ (¬ (x_Rows_sizes X p1.toNatClampNeg) ≤ p2 → (post 1 X)))))
set_option maxHeartbeats 4000000 in
set_option maxRecDepth 100000 in
theorem lb_Rows_hasCell {κ : Cx} {g : Gx} {M : ST} (hκ : CF κ g RX4 cX4_hasCell wq_X4_hasCell 3 rm_Rows_hasCell) {post : Int32 → ST → Prop} (hR : RtxZ κ g 3 cX4_hasCell M post) {X : ST} {p1 : Int32} {p2 : Int32} (h : wp_Rows_hasCell X p1 p2 post) : Jw κ g 3 X M [(0, .ref (g.2.1 1)), (1, .int p1), (2, .int p2)] 0 [] := by
  unfold wp_Rows_hasCell at h
  refine j_iload_n (pc' := 1) hκ 2 rfl rfl dX4_hasCell_0 rfl ?_
  refine j_if_lt (tgt := 18) (pc' := 4) hκ dX4_hasCell_1 (by decide) rfl (fun c => ?_) (fun c => ?_)
  · replace h := h.1 c
    refine j_iconst (pc' := 19) (v := 0) hκ (by decide) dX4_hasCell_18 rfl ?_
    exact hR _ _ _ _ dX4_hasCell_19 (Or.inl rfl) h
  · replace h := h.2 c
    refine j_iload_n (pc' := 5) hκ 2 rfl rfl dX4_hasCell_4 rfl ?_
    refine j_aload_n (pc' := 6) hκ 0 rfl rfl dX4_hasCell_5 rfl ?_
    refine jg_1_2 (pc' := 9) hκ (mi inlX4) (fl_in hκ (mc wm_3_11)) dX4_hasCell_6 rfl ?_
    refine j_iload_n (pc' := 10) hκ 1 rfl rfl dX4_hasCell_9 rfl ?_
    refine jx_iald (pc' := 11) hκ (ah_14 g) h.1 dX4_hasCell_10 rfl ?_
    replace h := h.2
    refine j_icmp_ge (tgt := 18) (pc' := 14) hκ dX4_hasCell_11 (by decide) rfl (fun c => ?_) (fun c => ?_)
    · replace h := h.1 c
      refine j_iconst (pc' := 19) (v := 0) hκ (by decide) dX4_hasCell_18 rfl ?_
      exact hR _ _ _ _ dX4_hasCell_19 (Or.inl rfl) h
    · replace h := h.2 c
      refine j_iconst (pc' := 15) (v := 1) hκ (by decide) dX4_hasCell_14 rfl ?_
      refine j_goto (pc' := 19) hκ (by decide) dX4_hasCell_15 ?_
      exact hR _ _ _ _ dX4_hasCell_19 (Or.inr rfl) h
theorem c_Rows_hasCell {g : Gx} (hg : Dg g) {X M : ST} {p1 : Int32} {p2 : Int32} {post : Int32 → ST → Prop} (h : wp_Rows_hasCell X p1 p2 post) (l : Launch) : Met l yX4_hasCell wq_X4_hasCell rm_Rows_hasCell (va_Pc [.ref (g.2.1 1), .int p1, .int p2] (PU g X M)) (va_Qi post (fun Y t => va_P g.1 vwCl (ww g Y M) t.heap) (wA g)) 0 0 (wA g) :=
  met_xz hg (by decide) rfl [.ref (g.2.1 1), .int p1, .int p2] rfl (Nat.le_of_ble_eq_true rfl) (fun κ hκ hR => lb_Rows_hasCell hκ hR h) l
theorem wm_12_18 : Cond.methodLink RX9 129 yX4_hasCell ∈ wAll := inr_12 (List.mem_of_getElem? (i := 18) rfl)
theorem wm_12_19 : Cond.instanceMethod yX4_hasCell ∈ wAll := inr_12 (List.mem_of_getElem? (i := 19) rfl)
theorem wm_12_20 : Cond.selects RX4 yX4_hasCell yX4_hasCell ∈ wAll := inr_12 (List.mem_of_getElem? (i := 20) rfl)
theorem wm_12_21 : Cond.code yX4_hasCell cX4_hasCell 3 (some .boolean) ∈ wAll := inr_12 (List.mem_of_getElem? (i := 21) rfl)
theorem hqV_X4_hasCell : yX4_hasCell.cls = RX4 ∧ yX4_hasCell.cls ≠ "java/lang/invoke/MethodHandle" ∧ yX4_hasCell.cls ≠ "java/lang/invoke/VarHandle" ∧ (parseMethodDescriptor yX4_hasCell.desc).map (fun d => d.parameters.length) = some 2 := by decide +kernel
abbrev rm_Rows_write : Room := { frames := 0, cells := 0, slots := 0, locals := 0 }
def wp_Rows_write (X : ST) (p1 : Int32) (p2 : Int32) (p3 : Int64) (post : ST → Prop) : Prop :=
  vp_in p1 4 ∧ (((x_Rows_kinds X p1.toNatClampNeg) = 0 → (vp_in p1 4 ∧ (vp_in p2 50 ∧ (∀ X2 : ST, X2 = xs_cells X (p1.toNatClampNeg) (vp_updL (x_cells X (p1.toNatClampNeg)) p2.toNatClampNeg (((p3.toInt32).toInt16.toInt32).toInt64)) → post X2)))) ∧ (¬ (x_Rows_kinds X p1.toNatClampNeg) = 0 → (((x_Rows_kinds X p1.toNatClampNeg) = 1 → (vp_in p1 4 ∧ (vp_in p2 50 ∧ (∀ X4 : ST, X4 = xs_cells X (p1.toNatClampNeg) (vp_updL (x_cells X (p1.toNatClampNeg)) p2.toNatClampNeg ((p3.toInt32).toInt64)) → post X4)))) ∧ (¬ (x_Rows_kinds X p1.toNatClampNeg) = 1 → (vp_in p1 4 ∧ (vp_in p2 50 ∧ (∀ X6 : ST, X6 = xs_cells X (p1.toNatClampNeg) (vp_updL (x_cells X (p1.toNatClampNeg)) p2.toNatClampNeg p3) → post X6)))))))
set_option maxHeartbeats 4000000 in
set_option maxRecDepth 100000 in
theorem lb_Rows_write {κ : Cx} {g : Gx} {M : ST} (hκ : CF κ g RX4 cX4_write wq_X4_write 5 rm_Rows_write) {post : ST → Prop} (hR : RtxV κ g 5 cX4_write M post) {X : ST} {p1 : Int32} {p2 : Int32} {p3 : Int64} (h : wp_Rows_write X p1 p2 p3 post) : Jw κ g 5 X M [(0, .ref (g.2.1 1)), (1, .int p1), (2, .int p2), (3, .long p3)] 0 [] := by
  unfold wp_Rows_write at h
  refine j_aload_n (pc' := 1) hκ 0 rfl rfl dX4_write_0 rfl ?_
  refine jg_1_1 (pc' := 4) hκ (mi inlX4) (fl_in hκ (mc wm_3_10)) dX4_write_1 rfl ?_
  refine j_iload_n (pc' := 5) hκ 1 rfl rfl dX4_write_4 rfl ?_
  refine jx_iald (pc' := 6) hκ (ah_13 g) h.1 dX4_write_5 rfl ?_
  replace h := h.2
  by_cases c0 : (x_Rows_kinds X p1.toNatClampNeg) = 0
  · replace h := h.1 c0
    refine j_lkEq (v := 0) (off := 26) (tgt := 32) hκ dX4_write_6 rfl c0 (by decide) (by decide) ?_
    refine j_aload_n (pc' := 33) hκ 0 rfl rfl dX4_write_32 rfl ?_
    refine jg_1_0 (pc' := 36) hκ (mi inlX4) (fl_in hκ (mc wm_3_8)) dX4_write_33 rfl ?_
    refine j_iload_n (pc' := 37) hκ 1 rfl rfl dX4_write_36 rfl ?_
    refine j_aald (pc' := 38) (q := 12) (t := 4) hκ (wg_12 g _ _) rfl h.1 dX4_write_37 rfl ?_
    have hr1 : p1.toNatClampNeg < 4 := Nat.not_le.mp fun q => h.1 (Or.inr q)
    replace h := h.2
    refine j_iload_n (pc' := 39) hκ 2 rfl rfl dX4_write_38 rfl ?_
    refine j_lload_n (pc' := 40) hκ 3 rfl rfl dX4_write_39 rfl ?_
    refine j_l2i (pc' := 41) hκ dX4_write_40 rfl ?_
    refine j_i2s (pc' := 42) hκ dX4_write_41 rfl ?_
    refine j_i2l (pc' := 43) hκ dX4_write_42 rfl ?_
    refine jx_last (pc' := 44) hκ (ah_cells g hr1) h.1 dX4_write_43 rfl ?_
    replace h := h.2
    refine j_nmX (fun X2 eX2 => ?_)
    replace h := h X2 eX2
    refine j_goto (pc' := 70) hκ (by decide) dX4_write_44 ?_
    exact hR _ _ _ dX4_write_70 h
  replace h := h.2 c0
  by_cases c1 : (x_Rows_kinds X p1.toNatClampNeg) = 1
  · replace h := h.1 c1
    refine j_lkEq (v := 1) (off := 41) (tgt := 47) hκ dX4_write_6 rfl c1 (by decide) (by decide) ?_
    refine j_aload_n (pc' := 48) hκ 0 rfl rfl dX4_write_47 rfl ?_
    refine jg_1_0 (pc' := 51) hκ (mi inlX4) (fl_in hκ (mc wm_3_8)) dX4_write_48 rfl ?_
    refine j_iload_n (pc' := 52) hκ 1 rfl rfl dX4_write_51 rfl ?_
    refine j_aald (pc' := 53) (q := 12) (t := 4) hκ (wg_12 g _ _) rfl h.1 dX4_write_52 rfl ?_
    have hr3 : p1.toNatClampNeg < 4 := Nat.not_le.mp fun q => h.1 (Or.inr q)
    replace h := h.2
    refine j_iload_n (pc' := 54) hκ 2 rfl rfl dX4_write_53 rfl ?_
    refine j_lload_n (pc' := 55) hκ 3 rfl rfl dX4_write_54 rfl ?_
    refine j_l2i (pc' := 56) hκ dX4_write_55 rfl ?_
    refine j_i2l (pc' := 57) hκ dX4_write_56 rfl ?_
    refine jx_last (pc' := 58) hκ (ah_cells g hr3) h.1 dX4_write_57 rfl ?_
    replace h := h.2
    refine j_nmX (fun X4 eX4 => ?_)
    replace h := h X4 eX4
    refine j_goto (pc' := 70) hκ (by decide) dX4_write_58 ?_
    exact hR _ _ _ dX4_write_70 h
  replace h := h.2 c1
  refine j_lk (off := 55) (tgt := 61) hκ dX4_write_6 rfl ((lv_osw c0 (by decide)).trans ((lv_osw c1 (by decide)).trans (rfl))) (by decide) ?_
  refine j_aload_n (pc' := 62) hκ 0 rfl rfl dX4_write_61 rfl ?_
  refine jg_1_0 (pc' := 65) hκ (mi inlX4) (fl_in hκ (mc wm_3_8)) dX4_write_62 rfl ?_
  refine j_iload_n (pc' := 66) hκ 1 rfl rfl dX4_write_65 rfl ?_
  refine j_aald (pc' := 67) (q := 12) (t := 4) hκ (wg_12 g _ _) rfl h.1 dX4_write_66 rfl ?_
  have hr5 : p1.toNatClampNeg < 4 := Nat.not_le.mp fun q => h.1 (Or.inr q)
  replace h := h.2
  refine j_iload_n (pc' := 68) hκ 2 rfl rfl dX4_write_67 rfl ?_
  refine j_lload_n (pc' := 69) hκ 3 rfl rfl dX4_write_68 rfl ?_
  refine jx_last (pc' := 70) hκ (ah_cells g hr5) h.1 dX4_write_69 rfl ?_
  replace h := h.2
  refine j_nmX (fun X6 eX6 => ?_)
  replace h := h X6 eX6
  exact hR _ _ _ dX4_write_70 h
theorem c_Rows_write {g : Gx} (hg : Dg g) {X M : ST} {p1 : Int32} {p2 : Int32} {p3 : Int64} {post : ST → Prop} (h : wp_Rows_write X p1 p2 p3 post) (l : Launch) : Met l yX4_write wq_X4_write rm_Rows_write (va_Pc [.ref (g.2.1 1), .int p1, .int p2, .long p3] (PU g X M)) (va_Qv post (fun Y t => va_P g.1 vwCl (ww g Y M) t.heap) (wA g)) 0 0 (wA g) :=
  met_xv hg (by decide) rfl [.ref (g.2.1 1), .int p1, .int p2, .long p3] rfl (Nat.le_of_ble_eq_true rfl) (fun κ hκ hR => lb_Rows_write hκ hR h) l
theorem wm_12_22 : Cond.methodLink RX9 133 yX4_write ∈ wAll := inr_12 (List.mem_of_getElem? (i := 22) rfl)
theorem wm_12_23 : Cond.instanceMethod yX4_write ∈ wAll := inr_12 (List.mem_of_getElem? (i := 23) rfl)
theorem wm_13_0 : Cond.selects RX4 yX4_write yX4_write ∈ wAll := inr_13 (List.mem_of_getElem? (i := 0) rfl)
theorem wm_13_1 : Cond.code yX4_write cX4_write 5 none ∈ wAll := inr_13 (List.mem_of_getElem? (i := 1) rfl)
theorem hqV_X4_write : yX4_write.cls = RX4 ∧ yX4_write.cls ≠ "java/lang/invoke/MethodHandle" ∧ yX4_write.cls ≠ "java/lang/invoke/VarHandle" ∧ (parseMethodDescriptor yX4_write.desc).map (fun d => d.parameters.length) = some 3 := by decide +kernel
abbrev rm_LR_cell : Room := { frames := 1, cells := 0, slots := 0, locals := 24 }
def wp_LR_cell (X : ST) (p1 : Int32) (p2 : Int32) (p3 : Int64) (post : Int32 → ST → Prop) : Prop :=
  wp_Rows_isNumber X p1 (fun r2 X1 => (¬ r2 = 0 → (wp_Rows_isMissing X1 p1 (fun r4 X3 => (r4 = 0 → (wp_Rows_hasCell X3 p1 p2 (fun r6 X5 => (¬ r6 = 0 → (wp_Rows_write X5 p1 p2 p3 (fun X7 => post 1 X7))) ∧ (r6 = 0 → (post (-1) X5))))) ∧ (¬ r4 = 0 → (post (-3) X3))))) ∧ (r2 = 0 → (post (-1) X1)))
set_option maxHeartbeats 4000000 in
set_option maxRecDepth 100000 in
theorem lb_LR_cell {κ : Cx} {g : Gx} {M : ST} (hκ : CF κ g RX9 cX9_cell wq_X9_cell 5 rm_LR_cell) {post : Int32 → ST → Prop} (hR : RtxI κ g 5 cX9_cell M post) {X : ST} {p1 : Int32} {p2 : Int32} {p3 : Int64} (h : wp_LR_cell X p1 p2 p3 post) : Jw κ g 5 X M [(0, .ref (g.2.1 0)), (1, .int p1), (2, .int p2), (3, .long p3)] 0 [] := by
  unfold wp_LR_cell at h
  refine j_aload_n (pc' := 1) hκ 0 rfl rfl dX9_cell_0 rfl ?_
  refine jg_0_0 (pc' := 4) hκ (mi inlX9) (fl_in hκ (mc wm_1_16)) dX9_cell_1 rfl ?_
  refine j_iload_n (pc' := 5) hκ 1 rfl rfl dX9_cell_4 rfl ?_
  refine jx_callVi (pc' := 8) hκ (c_Rows_isNumber (dg hκ) h) rfl rfl rfl (gV wm_11_16 wm_11_17 wm_11_18 wm_1_15 wm_11_19) hqV_X4_isNumber ⟨Nat.le_of_ble_eq_true rfl, Nat.le_of_ble_eq_true rfl⟩ (wg_1 g _ _) rfl rfl rfl (Nat.le_of_ble_eq_true rfl) dX9_cell_5 rfl (fun r2 X1 h => ?_)
  refine j_if_ne (tgt := 13) (pc' := 11) hκ dX9_cell_8 (by decide) rfl (fun c => ?_) (fun c => ?_)
  · replace h := h.1 c
    refine j_aload_n (pc' := 14) hκ 0 rfl rfl dX9_cell_13 rfl ?_
    refine jg_0_0 (pc' := 17) hκ (mi inlX9) (fl_in hκ (mc wm_1_16)) dX9_cell_14 rfl ?_
    refine j_iload_n (pc' := 18) hκ 1 rfl rfl dX9_cell_17 rfl ?_
    refine jx_callVi (pc' := 21) hκ (c_Rows_isMissing (dg hκ) h) rfl rfl rfl (gV wm_12_14 wm_12_15 wm_12_16 wm_1_15 wm_12_17) hqV_X4_isMissing ⟨Nat.le_of_ble_eq_true rfl, Nat.le_of_ble_eq_true rfl⟩ (wg_1 g _ _) rfl rfl rfl (Nat.le_of_ble_eq_true rfl) dX9_cell_18 rfl (fun r4 X3 h => ?_)
    refine j_if_eq (tgt := 27) (pc' := 24) hκ dX9_cell_21 (by decide) rfl (fun c => ?_) (fun c => ?_)
    · replace h := h.1 c
      refine j_aload_n (pc' := 28) hκ 0 rfl rfl dX9_cell_27 rfl ?_
      refine jg_0_0 (pc' := 31) hκ (mi inlX9) (fl_in hκ (mc wm_1_16)) dX9_cell_28 rfl ?_
      refine j_iload_n (pc' := 32) hκ 1 rfl rfl dX9_cell_31 rfl ?_
      refine j_iload_n (pc' := 33) hκ 2 rfl rfl dX9_cell_32 rfl ?_
      refine jx_callVi (pc' := 36) hκ (c_Rows_hasCell (dg hκ) h) rfl rfl rfl (gV wm_12_18 wm_12_19 wm_12_20 wm_1_15 wm_12_21) hqV_X4_hasCell ⟨Nat.le_of_ble_eq_true rfl, Nat.le_of_ble_eq_true rfl⟩ (wg_1 g _ _) rfl rfl rfl (Nat.le_of_ble_eq_true rfl) dX9_cell_33 rfl (fun r6 X5 h => ?_)
      refine j_if_ne (tgt := 41) (pc' := 39) hκ dX9_cell_36 (by decide) rfl (fun c => ?_) (fun c => ?_)
      · replace h := h.1 c
        refine j_aload_n (pc' := 42) hκ 0 rfl rfl dX9_cell_41 rfl ?_
        refine jg_0_0 (pc' := 45) hκ (mi inlX9) (fl_in hκ (mc wm_1_16)) dX9_cell_42 rfl ?_
        refine j_iload_n (pc' := 46) hκ 1 rfl rfl dX9_cell_45 rfl ?_
        refine j_iload_n (pc' := 47) hκ 2 rfl rfl dX9_cell_46 rfl ?_
        refine j_lload_n (pc' := 48) hκ 3 rfl rfl dX9_cell_47 rfl ?_
        refine jx_callVv (pc' := 51) hκ (c_Rows_write (dg hκ) h) rfl rfl rfl (gV wm_12_22 wm_12_23 wm_13_0 wm_1_15 wm_13_1) hqV_X4_write ⟨Nat.le_of_ble_eq_true rfl, Nat.le_of_ble_eq_true rfl⟩ (wg_1 g _ _) rfl rfl rfl (Nat.le_of_ble_eq_true rfl) dX9_cell_48 rfl (fun X7 h => ?_)
        refine j_iconst (pc' := 52) (v := 1) hκ (by decide) dX9_cell_51 rfl ?_
        exact hR _ _ _ _ dX9_cell_52 h
      · replace h := h.2 c
        refine j_iconst (pc' := 40) (v := (-1)) hκ (by decide) dX9_cell_39 rfl ?_
        exact hR _ _ _ _ dX9_cell_40 h
    · replace h := h.2 c
      refine j_bipush (pc' := 26) (v := (-3)) hκ (by decide) dX9_cell_24 rfl ?_
      exact hR _ _ _ _ dX9_cell_26 h
  · replace h := h.2 c
    refine j_iconst (pc' := 12) (v := (-1)) hκ (by decide) dX9_cell_11 rfl ?_
    exact hR _ _ _ _ dX9_cell_12 h
theorem c_LR_cell {g : Gx} (hg : Dg g) {X M : ST} {p1 : Int32} {p2 : Int32} {p3 : Int64} {post : Int32 → ST → Prop} (h : wp_LR_cell X p1 p2 p3 post) (l : Launch) : Met l yX9_cell wq_X9_cell rm_LR_cell (va_Pc [.ref (g.2.1 0), .int p1, .int p2, .long p3] (PU g X M)) (va_Qi post (fun Y t => va_P g.1 vwCl (ww g Y M) t.heap) (wA g)) 0 0 (wA g) :=
  met_xi hg (by decide) rfl [.ref (g.2.1 0), .int p1, .int p2, .long p3] rfl (Nat.le_of_ble_eq_true rfl) (fun κ hκ hR => lb_LR_cell hκ hR h) l
theorem wm_13_10 : Cond.constantLong RX9 137 (9223372036854775807) ∈ wAll := inr_13 (List.mem_of_getElem? (i := 10) rfl)
abbrev rm_LR_told : Room := { frames := 1, cells := 0, slots := 0, locals := 22 }
def wp_LR_told (X : ST) (p1 : Int32) (p2 : Int32) (post : Int64 → ST → Prop) : Prop :=
  wp_Rows_isNumber X p1 (fun r2 X1 => (r2 = 0 → (post 9223372036854775807 X1)) ∧ (¬ r2 = 0 → (wp_Rows_hasCell X1 p1 p2 (fun r4 X3 => (¬ r4 = 0 → (vp_in p1 4 ∧ (vp_in p2 50 ∧ (post (x_cells X3 (p1.toNatClampNeg) p2.toNatClampNeg) X3)))) ∧ (r4 = 0 → (post 9223372036854775807 X3))))))
set_option maxHeartbeats 4000000 in
set_option maxRecDepth 100000 in
theorem lb_LR_told {κ : Cx} {g : Gx} {M : ST} (hκ : CF κ g RX9 cX9_told wq_X9_told 3 rm_LR_told) {post : Int64 → ST → Prop} (hR : RtxL κ g 3 cX9_told M post) {X : ST} {p1 : Int32} {p2 : Int32} (h : wp_LR_told X p1 p2 post) : Jw κ g 3 X M [(0, .ref (g.2.1 0)), (1, .int p1), (2, .int p2)] 0 [] := by
  unfold wp_LR_told at h
  refine j_aload_n (pc' := 1) hκ 0 rfl rfl dX9_told_0 rfl ?_
  refine jg_0_0 (pc' := 4) hκ (mi inlX9) (fl_in hκ (mc wm_1_16)) dX9_told_1 rfl ?_
  refine j_iload_n (pc' := 5) hκ 1 rfl rfl dX9_told_4 rfl ?_
  refine jx_callVi (pc' := 8) hκ (c_Rows_isNumber (dg hκ) h) rfl rfl rfl (gV wm_11_16 wm_11_17 wm_11_18 wm_1_15 wm_11_19) hqV_X4_isNumber ⟨Nat.le_of_ble_eq_true rfl, Nat.le_of_ble_eq_true rfl⟩ (wg_1 g _ _) rfl rfl rfl (Nat.le_of_ble_eq_true rfl) dX9_told_5 rfl (fun r2 X1 h => ?_)
  refine j_if_eq (tgt := 23) (pc' := 11) hκ dX9_told_8 (by decide) rfl (fun c => ?_) (fun c => ?_)
  · replace h := h.1 c
    refine j_ldc2_w (pc' := 26) hκ (mc wm_13_10) dX9_told_23 rfl ?_
    exact hR _ _ _ _ dX9_told_26 h
  · replace h := h.2 c
    refine j_aload_n (pc' := 12) hκ 0 rfl rfl dX9_told_11 rfl ?_
    refine jg_0_0 (pc' := 15) hκ (mi inlX9) (fl_in hκ (mc wm_1_16)) dX9_told_12 rfl ?_
    refine j_iload_n (pc' := 16) hκ 1 rfl rfl dX9_told_15 rfl ?_
    refine j_iload_n (pc' := 17) hκ 2 rfl rfl dX9_told_16 rfl ?_
    refine jx_callVi (pc' := 20) hκ (c_Rows_hasCell (dg hκ) h) rfl rfl rfl (gV wm_12_18 wm_12_19 wm_12_20 wm_1_15 wm_12_21) hqV_X4_hasCell ⟨Nat.le_of_ble_eq_true rfl, Nat.le_of_ble_eq_true rfl⟩ (wg_1 g _ _) rfl rfl rfl (Nat.le_of_ble_eq_true rfl) dX9_told_17 rfl (fun r4 X3 h => ?_)
    refine j_if_ne (tgt := 27) (pc' := 23) hκ dX9_told_20 (by decide) rfl (fun c => ?_) (fun c => ?_)
    · replace h := h.1 c
      refine j_aload_n (pc' := 28) hκ 0 rfl rfl dX9_told_27 rfl ?_
      refine jg_0_0 (pc' := 31) hκ (mi inlX9) (fl_in hκ (mc wm_1_16)) dX9_told_28 rfl ?_
      refine jg_1_0 (pc' := 34) hκ (mi inlX4) (fl_ne hκ 5 rfl) dX9_told_31 rfl ?_
      refine j_iload_n (pc' := 35) hκ 1 rfl rfl dX9_told_34 rfl ?_
      refine j_aald (pc' := 36) (q := 12) (t := 4) hκ (wg_12 g _ _) rfl h.1 dX9_told_35 rfl ?_
      have hr5 : p1.toNatClampNeg < 4 := Nat.not_le.mp fun q => h.1 (Or.inr q)
      replace h := h.2
      refine j_iload_n (pc' := 37) hκ 2 rfl rfl dX9_told_36 rfl ?_
      refine jx_lald (pc' := 38) hκ (ah_cells g hr5) h.1 dX9_told_37 rfl ?_
      replace h := h.2
      exact hR _ _ _ _ dX9_told_38 h
    · replace h := h.2 c
      refine j_ldc2_w (pc' := 26) hκ (mc wm_13_10) dX9_told_23 rfl ?_
      exact hR _ _ _ _ dX9_told_26 h
theorem c_LR_told {g : Gx} (hg : Dg g) {X M : ST} {p1 : Int32} {p2 : Int32} {post : Int64 → ST → Prop} (h : wp_LR_told X p1 p2 post) (l : Launch) : Met l yX9_told wq_X9_told rm_LR_told (va_Pc [.ref (g.2.1 0), .int p1, .int p2] (PU g X M)) (va_Ql post (fun Y t => va_P g.1 vwCl (ww g Y M) t.heap) (wA g)) 0 0 (wA g) :=
  met_xl hg (by decide) rfl [.ref (g.2.1 0), .int p1, .int p2] rfl (Nat.le_of_ble_eq_true rfl) (fun κ hκ hR => lb_LR_told hκ hR h) l
abbrev rm_Rows_drop : Room := { frames := 0, cells := 0, slots := 0, locals := 0 }
def wp_Rows_drop (X : ST) (p1 : Int32) (post : ST → Prop) : Prop :=
  vp_in p1 4 ∧ (∀ X1 : ST, X1 = xs_Rows_sizes X (upd (x_Rows_sizes X) p1.toNatClampNeg (-1)) → post X1)
set_option maxHeartbeats 4000000 in
set_option maxRecDepth 100000 in
theorem lb_Rows_drop {κ : Cx} {g : Gx} {M : ST} (hκ : CF κ g RX4 cX4_drop wq_X4_drop 2 rm_Rows_drop) {post : ST → Prop} (hR : RtxV κ g 2 cX4_drop M post) {X : ST} {p1 : Int32} (h : wp_Rows_drop X p1 post) : Jw κ g 2 X M [(0, .ref (g.2.1 1)), (1, .int p1)] 0 [] := by
  unfold wp_Rows_drop at h
  refine j_aload_n (pc' := 1) hκ 0 rfl rfl dX4_drop_0 rfl ?_
  refine jg_1_2 (pc' := 4) hκ (mi inlX4) (fl_in hκ (mc wm_3_11)) dX4_drop_1 rfl ?_
  refine j_iload_n (pc' := 5) hκ 1 rfl rfl dX4_drop_4 rfl ?_
  refine j_iconst (pc' := 6) (v := (-1)) hκ (by decide) dX4_drop_5 rfl ?_
  refine jx_iast (pc' := 7) hκ (ah_14 g) h.1 dX4_drop_6 rfl ?_
  replace h := h.2
  refine j_nmX (fun X1 eX1 => ?_)
  replace h := h X1 eX1
  exact hR _ _ _ dX4_drop_7 h
theorem c_Rows_drop {g : Gx} (hg : Dg g) {X M : ST} {p1 : Int32} {post : ST → Prop} (h : wp_Rows_drop X p1 post) (l : Launch) : Met l yX4_drop wq_X4_drop rm_Rows_drop (va_Pc [.ref (g.2.1 1), .int p1] (PU g X M)) (va_Qv post (fun Y t => va_P g.1 vwCl (ww g Y M) t.heap) (wA g)) 0 0 (wA g) :=
  met_xv hg (by decide) rfl [.ref (g.2.1 1), .int p1] rfl (Nat.le_of_ble_eq_true rfl) (fun κ hκ hR => lb_Rows_drop hκ hR h) l
theorem wm_13_20 : Cond.methodLink RX9 143 yX4_drop ∈ wAll := inr_13 (List.mem_of_getElem? (i := 20) rfl)
theorem wm_13_21 : Cond.instanceMethod yX4_drop ∈ wAll := inr_13 (List.mem_of_getElem? (i := 21) rfl)
theorem wm_13_22 : Cond.selects RX4 yX4_drop yX4_drop ∈ wAll := inr_13 (List.mem_of_getElem? (i := 22) rfl)
theorem wm_13_23 : Cond.code yX4_drop cX4_drop 2 none ∈ wAll := inr_13 (List.mem_of_getElem? (i := 23) rfl)
theorem hqV_X4_drop : yX4_drop.cls = RX4 ∧ yX4_drop.cls ≠ "java/lang/invoke/MethodHandle" ∧ yX4_drop.cls ≠ "java/lang/invoke/VarHandle" ∧ (parseMethodDescriptor yX4_drop.desc).map (fun d => d.parameters.length) = some 1 := by decide +kernel
abbrev rm_LR_lose : Room := { frames := 1, cells := 0, slots := 0, locals := 21 }
def wp_LR_lose (X : ST) (p1 : Int32) (post : Int32 → ST → Prop) : Prop :=
  wp_Rows_isNumber X p1 (fun r2 X1 => (¬ r2 = 0 → (wp_Rows_isMissing X1 p1 (fun r4 X3 => (r4 = 0 → (wp_Rows_drop X3 p1 (fun X5 => post 1 X5))) ∧ (¬ r4 = 0 → (post (-3) X3))))) ∧ (r2 = 0 → (post (-1) X1)))
set_option maxHeartbeats 4000000 in
set_option maxRecDepth 100000 in
theorem lb_LR_lose {κ : Cx} {g : Gx} {M : ST} (hκ : CF κ g RX9 cX9_lose wq_X9_lose 2 rm_LR_lose) {post : Int32 → ST → Prop} (hR : RtxI κ g 2 cX9_lose M post) {X : ST} {p1 : Int32} (h : wp_LR_lose X p1 post) : Jw κ g 2 X M [(0, .ref (g.2.1 0)), (1, .int p1)] 0 [] := by
  unfold wp_LR_lose at h
  refine j_aload_n (pc' := 1) hκ 0 rfl rfl dX9_lose_0 rfl ?_
  refine jg_0_0 (pc' := 4) hκ (mi inlX9) (fl_in hκ (mc wm_1_16)) dX9_lose_1 rfl ?_
  refine j_iload_n (pc' := 5) hκ 1 rfl rfl dX9_lose_4 rfl ?_
  refine jx_callVi (pc' := 8) hκ (c_Rows_isNumber (dg hκ) h) rfl rfl rfl (gV wm_11_16 wm_11_17 wm_11_18 wm_1_15 wm_11_19) hqV_X4_isNumber ⟨Nat.le_of_ble_eq_true rfl, Nat.le_of_ble_eq_true rfl⟩ (wg_1 g _ _) rfl rfl rfl (Nat.le_of_ble_eq_true rfl) dX9_lose_5 rfl (fun r2 X1 h => ?_)
  refine j_if_ne (tgt := 13) (pc' := 11) hκ dX9_lose_8 (by decide) rfl (fun c => ?_) (fun c => ?_)
  · replace h := h.1 c
    refine j_aload_n (pc' := 14) hκ 0 rfl rfl dX9_lose_13 rfl ?_
    refine jg_0_0 (pc' := 17) hκ (mi inlX9) (fl_in hκ (mc wm_1_16)) dX9_lose_14 rfl ?_
    refine j_iload_n (pc' := 18) hκ 1 rfl rfl dX9_lose_17 rfl ?_
    refine jx_callVi (pc' := 21) hκ (c_Rows_isMissing (dg hκ) h) rfl rfl rfl (gV wm_12_14 wm_12_15 wm_12_16 wm_1_15 wm_12_17) hqV_X4_isMissing ⟨Nat.le_of_ble_eq_true rfl, Nat.le_of_ble_eq_true rfl⟩ (wg_1 g _ _) rfl rfl rfl (Nat.le_of_ble_eq_true rfl) dX9_lose_18 rfl (fun r4 X3 h => ?_)
    refine j_if_eq (tgt := 27) (pc' := 24) hκ dX9_lose_21 (by decide) rfl (fun c => ?_) (fun c => ?_)
    · replace h := h.1 c
      refine j_aload_n (pc' := 28) hκ 0 rfl rfl dX9_lose_27 rfl ?_
      refine jg_0_0 (pc' := 31) hκ (mi inlX9) (fl_in hκ (mc wm_1_16)) dX9_lose_28 rfl ?_
      refine j_iload_n (pc' := 32) hκ 1 rfl rfl dX9_lose_31 rfl ?_
      refine jx_callVv (pc' := 35) hκ (c_Rows_drop (dg hκ) h) rfl rfl rfl (gV wm_13_20 wm_13_21 wm_13_22 wm_1_15 wm_13_23) hqV_X4_drop ⟨Nat.le_of_ble_eq_true rfl, Nat.le_of_ble_eq_true rfl⟩ (wg_1 g _ _) rfl rfl rfl (Nat.le_of_ble_eq_true rfl) dX9_lose_32 rfl (fun X5 h => ?_)
      refine j_iconst (pc' := 36) (v := 1) hκ (by decide) dX9_lose_35 rfl ?_
      exact hR _ _ _ _ dX9_lose_36 h
    · replace h := h.2 c
      refine j_bipush (pc' := 26) (v := (-3)) hκ (by decide) dX9_lose_24 rfl ?_
      exact hR _ _ _ _ dX9_lose_26 h
  · replace h := h.2 c
    refine j_iconst (pc' := 12) (v := (-1)) hκ (by decide) dX9_lose_11 rfl ?_
    exact hR _ _ _ _ dX9_lose_12 h
theorem c_LR_lose {g : Gx} (hg : Dg g) {X M : ST} {p1 : Int32} {post : Int32 → ST → Prop} (h : wp_LR_lose X p1 post) (l : Launch) : Met l yX9_lose wq_X9_lose rm_LR_lose (va_Pc [.ref (g.2.1 0), .int p1] (PU g X M)) (va_Qi post (fun Y t => va_P g.1 vwCl (ww g Y M) t.heap) (wA g)) 0 0 (wA g) :=
  met_xi hg (by decide) rfl [.ref (g.2.1 0), .int p1] rfl (Nat.le_of_ble_eq_true rfl) (fun κ hκ hR => lb_LR_lose hκ hR h) l
abbrev rm_Town_resize : Room := { frames := 1, cells := 0, slots := 0, locals := 21 }
def wp_Town_resize (X : ST) (p1 : Int32) (p2 : Int64) (post : ST → Prop) : Prop :=
  wp_LR_isLength X p2 (fun r2 X1 => (r2 = 0 → (vp_in p1 100 ∧ (∀ X3 : ST, X3 = xs_Town_isOpen X1 (upd (x_Town_isOpen X1) p1.toNatClampNeg (vp_nar .boolean 0)) → post X3))) ∧ (¬ r2 = 0 → (vp_in p1 100 ∧ (∀ X4 : ST, X4 = xs_Town_size X1 (upd (x_Town_size X1) p1.toNatClampNeg (p2.toInt32)) → post X4))))
set_option maxHeartbeats 4000000 in
set_option maxRecDepth 100000 in
theorem lb_Town_resize {κ : Cx} {g : Gx} {M : ST} (hκ : CF κ g RX7 cX7_resize wq_X7_resize 4 rm_Town_resize) {post : ST → Prop} (hR : RtxV κ g 4 cX7_resize M post) {X : ST} {p1 : Int32} {p2 : Int64} (h : wp_Town_resize X p1 p2 post) : Jw κ g 4 X M [(0, .ref (g.2.1 2)), (1, .int p1), (2, .long p2)] 0 [] := by
  unfold wp_Town_resize at h
  refine j_lload_n (pc' := 1) hκ 2 rfl rfl dX7_resize_0 rfl ?_
  refine jx_callNi (pc' := 4) hκ (c_LR_isLength (dg hκ) h) rfl rfl rfl (gN wm_9_6) 12 rfl (mc wm_1_2) (mc wm_9_5) hqS_X9_isLength ⟨Nat.le_of_ble_eq_true rfl, Nat.le_of_ble_eq_true rfl⟩ rfl rfl (Nat.le_of_ble_eq_true rfl) dX7_resize_1 rfl (fun r2 X1 h => ?_)
  refine j_if_eq (tgt := 18) (pc' := 7) hκ dX7_resize_4 (by decide) rfl (fun c => ?_) (fun c => ?_)
  · replace h := h.1 c
    refine j_aload_n (pc' := 19) hκ 0 rfl rfl dX7_resize_18 rfl ?_
    refine jg_2_3 (pc' := 22) hκ (mi inlX7) (fl_in hκ (mc wm_3_23)) dX7_resize_19 rfl ?_
    refine j_iload_n (pc' := 23) hκ 1 rfl rfl dX7_resize_22 rfl ?_
    refine j_iconst (pc' := 24) (v := 0) hκ (by decide) dX7_resize_23 rfl ?_
    refine jx_zast (pc' := 25) hκ (ah_18 g) h.1 dX7_resize_24 rfl ?_
    replace h := h.2
    refine j_nmX (fun X3 eX3 => ?_)
    replace h := h X3 eX3
    exact hR _ _ _ dX7_resize_25 h
  · replace h := h.2 c
    refine j_aload_n (pc' := 8) hκ 0 rfl rfl dX7_resize_7 rfl ?_
    refine jg_2_2 (pc' := 11) hκ (mi inlX7) (fl_in hκ (mc wm_3_21)) dX7_resize_8 rfl ?_
    refine j_iload_n (pc' := 12) hκ 1 rfl rfl dX7_resize_11 rfl ?_
    refine j_lload_n (pc' := 13) hκ 2 rfl rfl dX7_resize_12 rfl ?_
    refine j_l2i (pc' := 14) hκ dX7_resize_13 rfl ?_
    refine jx_iast (pc' := 15) hκ (ah_17 g) h.1 dX7_resize_14 rfl ?_
    replace h := h.2
    refine j_nmX (fun X4 eX4 => ?_)
    replace h := h X4 eX4
    refine j_goto (pc' := 25) hκ (by decide) dX7_resize_15 ?_
    exact hR _ _ _ dX7_resize_25 h
theorem c_Town_resize {g : Gx} (hg : Dg g) {X M : ST} {p1 : Int32} {p2 : Int64} {post : ST → Prop} (h : wp_Town_resize X p1 p2 post) (l : Launch) : Met l yX7_resize wq_X7_resize rm_Town_resize (va_Pc [.ref (g.2.1 2), .int p1, .long p2] (PU g X M)) (va_Qv post (fun Y t => va_P g.1 vwCl (ww g Y M) t.heap) (wA g)) 0 0 (wA g) :=
  met_xv hg (by decide) rfl [.ref (g.2.1 2), .int p1, .long p2] rfl (Nat.le_of_ble_eq_true rfl) (fun κ hκ hR => lb_Town_resize hκ hR h) l
theorem wm_14_8 : Cond.methodLink RX9 153 yX7_resize ∈ wAll := inr_14 (List.mem_of_getElem? (i := 8) rfl)
theorem wm_14_9 : Cond.instanceMethod yX7_resize ∈ wAll := inr_14 (List.mem_of_getElem? (i := 9) rfl)
theorem wm_14_10 : Cond.selects RX7 yX7_resize yX7_resize ∈ wAll := inr_14 (List.mem_of_getElem? (i := 10) rfl)
theorem wm_14_11 : Cond.code yX7_resize cX7_resize 4 none ∈ wAll := inr_14 (List.mem_of_getElem? (i := 11) rfl)
theorem hqV_X7_resize : yX7_resize.cls = RX7 ∧ yX7_resize.cls ≠ "java/lang/invoke/MethodHandle" ∧ yX7_resize.cls ≠ "java/lang/invoke/VarHandle" ∧ (parseMethodDescriptor yX7_resize.desc).map (fun d => d.parameters.length) = some 2 := by decide +kernel
abbrev rm_LR_lay : Room := { frames := 3, cells := 0, slots := 0, locals := 61 }
def wp_LR_lay_90_s (K128 : ST → Prop) (post : Int32 → ST → Prop) (rec : ST → Int32 → Int32 → Int32 → Int32 → Int32 → Prop) (X : ST) (l1 : Int32) (l2 : Int32) (l3 : Int32) (l4 : Int32) (l5 : Int32) : Prop :=
  (l3 ≤ l5 → (K128 X)) ∧ (¬ l3 ≤ l5 → (vp_in l1 4 ∧ (vp_in (l2 + l5) 50 ∧ (wp_Town_resize X (l4 + l5) (x_cells X (l1.toNatClampNeg) (l2 + l5).toNatClampNeg) (fun X6 => rec X6 l1 l2 l3 l4 (l5 + 1))))))
def wp_LR_lay_90 (K128 : ST → Prop) (post : Int32 → ST → Prop) : Nat → ST → Int32 → Int32 → Int32 → Int32 → Int32 → Prop
  | 0 => fun _ _ _ _ _ _ => False
  | n + 1 => wp_LR_lay_90_s K128 post (wp_LR_lay_90 K128 post n)
set_option maxHeartbeats 4000000 in
set_option maxRecDepth 100000 in
theorem lb_LR_lay_90 {κ : Cx} {g : Gx} {M : ST} (hκ : CF κ g RX9 cX9_lay wq_X9_lay 6 rm_LR_lay) {post : Int32 → ST → Prop} (hR : RtxI κ g 6 cX9_lay M post) {K128 : ST → Prop} (hK128 : ∀ (X : ST), K128 X → Jw κ g 6 X M [(0, .ref (g.2.1 0))] 128 []) : ∀ (n : Nat) (X : ST) (l1 : Int32) (l2 : Int32) (l3 : Int32) (l4 : Int32) (l5 : Int32), wp_LR_lay_90 K128 post n X l1 l2 l3 l4 l5 → Jw κ g 6 X M [(0, .ref (g.2.1 0)), (1, .int l1), (2, .int l2), (3, .int l3), (4, .int l4), (5, .int l5)] 90 [] := by
  intro n
  induction n with
  | zero =>
    intro X l1 l2 l3 l4 l5  h
    exact h.elim
  | succ n ih =>
    intro X l1 l2 l3 l4 l5  h
    have h : wp_LR_lay_90_s K128 post (wp_LR_lay_90 K128 post n) X l1 l2 l3 l4 l5 := h
    unfold wp_LR_lay_90_s at h
    refine j_iload (pc' := 92) hκ 5 rfl dX9_lay_90 rfl ?_
    refine j_iload_n (pc' := 93) hκ 3 rfl rfl dX9_lay_92 rfl ?_
    refine j_icmp_ge (tgt := 128) (pc' := 96) hκ dX9_lay_93 (by decide) rfl (fun c => ?_) (fun c => ?_)
    · replace h := h.1 c
      refine j_sub [0] rfl ?_
      exact hK128 _  h
    · replace h := h.2 c
      refine j_aload_n (pc' := 97) hκ 0 rfl rfl dX9_lay_96 rfl ?_
      refine jg_0_1 (pc' := 100) hκ (mi inlX9) (fl_in hκ (mc wm_1_20)) dX9_lay_97 rfl ?_
      refine j_iload (pc' := 102) hκ 4 rfl dX9_lay_100 rfl ?_
      refine j_iload (pc' := 104) hκ 5 rfl dX9_lay_102 rfl ?_
      refine j_iadd (pc' := 105) hκ dX9_lay_104 rfl ?_
      refine j_aload_n (pc' := 106) hκ 0 rfl rfl dX9_lay_105 rfl ?_
      refine jg_0_0 (pc' := 109) hκ (mi inlX9) (fl_in hκ (mc wm_1_16)) dX9_lay_106 rfl ?_
      refine jg_1_0 (pc' := 112) hκ (mi inlX4) (fl_ne hκ 5 rfl) dX9_lay_109 rfl ?_
      refine j_iload_n (pc' := 113) hκ 1 rfl rfl dX9_lay_112 rfl ?_
      refine j_aald (pc' := 114) (q := 12) (t := 4) hκ (wg_12 g _ _) rfl h.1 dX9_lay_113 rfl ?_
      have hr5 : l1.toNatClampNeg < 4 := Nat.not_le.mp fun q => h.1 (Or.inr q)
      replace h := h.2
      refine j_iload_n (pc' := 115) hκ 2 rfl rfl dX9_lay_114 rfl ?_
      refine j_iload (pc' := 117) hκ 5 rfl dX9_lay_115 rfl ?_
      refine j_iadd (pc' := 118) hκ dX9_lay_117 rfl ?_
      refine jx_lald (pc' := 119) hκ (ah_cells g hr5) h.1 dX9_lay_118 rfl ?_
      replace h := h.2
      refine jx_callVv (pc' := 122) hκ (c_Town_resize (dg hκ) h) rfl rfl rfl (gV wm_14_8 wm_14_9 wm_14_10 wm_1_19 wm_14_11) hqV_X7_resize ⟨Nat.le_of_ble_eq_true rfl, Nat.le_of_ble_eq_true rfl⟩ (wg_2 g _ _) rfl rfl rfl (Nat.le_of_ble_eq_true rfl) dX9_lay_119 rfl (fun X6 h => ?_)
      refine j_iinc (pc' := 125) (v := l5 + 1) (lv' := [(5, .int (l5 + 1)), (0, .ref (g.2.1 0)), (1, .int l1), (2, .int l2), (3, .int l3), (4, .int l4)]) hκ 5 rfl rfl (Nat.le_of_ble_eq_true rfl) rfl dX9_lay_122 rfl ?_
      refine j_goto (pc' := 90) hκ (by decide) dX9_lay_125 ?_
      refine j_sub [1, 2, 3, 4, 5, 0] rfl ?_
      exact ih _ _ _ _ _ _  h
def wp_LR_lay (X : ST) (p1 : Int32) (p2 : Int32) (p3 : Int32) (p4 : Int32) (post : Int32 → ST → Prop) : Prop :=
  wp_Rows_isNumber X p1 (fun r2 X1 => (¬ r2 = 0 → (wp_Rows_isMissing X1 p1 (fun r4 X3 => (r4 = 0 → (vp_in p1 4 ∧ (((x_Rows_kinds X3 p1.toNatClampNeg) = 1 → ((p3 < 0 → (post (-1) X3)) ∧ (¬ p3 < 0 → ((p2 < 0 → (post (-1) X3)) ∧ (¬ p2 < 0 → (vp_in p1 4 ∧ ((((x_Rows_sizes X3 p1.toNatClampNeg) - p2) < p3 → (post (-1) X3)) ∧ (¬ ((x_Rows_sizes X3 p1.toNatClampNeg) - p2) < p3 → ((p4 < 0 → (post (-1) X3)) ∧ (¬ p4 < 0 → ((p3 ≤ ((x_Town_count X3) - p4) → (∃ n, wp_LR_lay_90 (fun X8 => wp_LR_lanesChanged X8 (fun X9 => post 1 X9)) post n X3 p1 p2 p3 p4 0)) ∧ (¬ p3 ≤ ((x_Town_count X3) - p4) → (post (-1) X3))))))))))))) ∧ (¬ (x_Rows_kinds X3 p1.toNatClampNeg) = 1 → (post (-5) X3))))) ∧ (¬ r4 = 0 → (post (-3) X3))))) ∧ (r2 = 0 → (post (-1) X1)))
set_option maxHeartbeats 4000000 in
set_option maxRecDepth 100000 in
theorem lb_LR_lay {κ : Cx} {g : Gx} {M : ST} (hκ : CF κ g RX9 cX9_lay wq_X9_lay 6 rm_LR_lay) {post : Int32 → ST → Prop} (hR : RtxI κ g 6 cX9_lay M post) {X : ST} {p1 : Int32} {p2 : Int32} {p3 : Int32} {p4 : Int32} (h : wp_LR_lay X p1 p2 p3 p4 post) : Jw κ g 6 X M [(0, .ref (g.2.1 0)), (1, .int p1), (2, .int p2), (3, .int p3), (4, .int p4)] 0 [] := by
  unfold wp_LR_lay at h
  refine j_aload_n (pc' := 1) hκ 0 rfl rfl dX9_lay_0 rfl ?_
  refine jg_0_0 (pc' := 4) hκ (mi inlX9) (fl_in hκ (mc wm_1_16)) dX9_lay_1 rfl ?_
  refine j_iload_n (pc' := 5) hκ 1 rfl rfl dX9_lay_4 rfl ?_
  refine jx_callVi (pc' := 8) hκ (c_Rows_isNumber (dg hκ) h) rfl rfl rfl (gV wm_11_16 wm_11_17 wm_11_18 wm_1_15 wm_11_19) hqV_X4_isNumber ⟨Nat.le_of_ble_eq_true rfl, Nat.le_of_ble_eq_true rfl⟩ (wg_1 g _ _) rfl rfl rfl (Nat.le_of_ble_eq_true rfl) dX9_lay_5 rfl (fun r2 X1 h => ?_)
  refine j_if_ne (tgt := 13) (pc' := 11) hκ dX9_lay_8 (by decide) rfl (fun c => ?_) (fun c => ?_)
  · replace h := h.1 c
    refine j_aload_n (pc' := 14) hκ 0 rfl rfl dX9_lay_13 rfl ?_
    refine jg_0_0 (pc' := 17) hκ (mi inlX9) (fl_in hκ (mc wm_1_16)) dX9_lay_14 rfl ?_
    refine j_iload_n (pc' := 18) hκ 1 rfl rfl dX9_lay_17 rfl ?_
    refine jx_callVi (pc' := 21) hκ (c_Rows_isMissing (dg hκ) h) rfl rfl rfl (gV wm_12_14 wm_12_15 wm_12_16 wm_1_15 wm_12_17) hqV_X4_isMissing ⟨Nat.le_of_ble_eq_true rfl, Nat.le_of_ble_eq_true rfl⟩ (wg_1 g _ _) rfl rfl rfl (Nat.le_of_ble_eq_true rfl) dX9_lay_18 rfl (fun r4 X3 h => ?_)
    refine j_if_eq (tgt := 27) (pc' := 24) hκ dX9_lay_21 (by decide) rfl (fun c => ?_) (fun c => ?_)
    · replace h := h.1 c
      refine j_aload_n (pc' := 28) hκ 0 rfl rfl dX9_lay_27 rfl ?_
      refine jg_0_0 (pc' := 31) hκ (mi inlX9) (fl_in hκ (mc wm_1_16)) dX9_lay_28 rfl ?_
      refine jg_1_1 (pc' := 34) hκ (mi inlX4) (fl_ne hκ 6 rfl) dX9_lay_31 rfl ?_
      refine j_iload_n (pc' := 35) hκ 1 rfl rfl dX9_lay_34 rfl ?_
      refine jx_iald (pc' := 36) hκ (ah_13 g) h.1 dX9_lay_35 rfl ?_
      replace h := h.2
      refine j_iconst (pc' := 37) (v := 1) hκ (by decide) dX9_lay_36 rfl ?_
      refine j_icmp_eq (tgt := 43) (pc' := 40) hκ dX9_lay_37 (by decide) rfl (fun c => ?_) (fun c => ?_)
      · replace h := h.1 c
        refine j_iload_n (pc' := 44) hκ 3 rfl rfl dX9_lay_43 rfl ?_
        refine j_if_lt (tgt := 85) (pc' := 47) hκ dX9_lay_44 (by decide) rfl (fun c => ?_) (fun c => ?_)
        · replace h := h.1 c
          refine j_iconst (pc' := 86) (v := (-1)) hκ (by decide) dX9_lay_85 rfl ?_
          exact hR _ _ _ _ dX9_lay_86 h
        · replace h := h.2 c
          refine j_iload_n (pc' := 48) hκ 2 rfl rfl dX9_lay_47 rfl ?_
          refine j_if_lt (tgt := 85) (pc' := 51) hκ dX9_lay_48 (by decide) rfl (fun c => ?_) (fun c => ?_)
          · replace h := h.1 c
            refine j_iconst (pc' := 86) (v := (-1)) hκ (by decide) dX9_lay_85 rfl ?_
            exact hR _ _ _ _ dX9_lay_86 h
          · replace h := h.2 c
            refine j_iload_n (pc' := 52) hκ 3 rfl rfl dX9_lay_51 rfl ?_
            refine j_aload_n (pc' := 53) hκ 0 rfl rfl dX9_lay_52 rfl ?_
            refine jg_0_0 (pc' := 56) hκ (mi inlX9) (fl_in hκ (mc wm_1_16)) dX9_lay_53 rfl ?_
            refine jg_1_2 (pc' := 59) hκ (mi inlX4) (fl_ne hκ 7 rfl) dX9_lay_56 rfl ?_
            refine j_iload_n (pc' := 60) hκ 1 rfl rfl dX9_lay_59 rfl ?_
            refine jx_iald (pc' := 61) hκ (ah_14 g) h.1 dX9_lay_60 rfl ?_
            replace h := h.2
            refine j_iload_n (pc' := 62) hκ 2 rfl rfl dX9_lay_61 rfl ?_
            refine j_isub (pc' := 63) hκ dX9_lay_62 rfl ?_
            refine j_icmp_gt (tgt := 85) (pc' := 66) hκ dX9_lay_63 (by decide) rfl (fun c => ?_) (fun c => ?_)
            · replace h := h.1 c
              refine j_iconst (pc' := 86) (v := (-1)) hκ (by decide) dX9_lay_85 rfl ?_
              exact hR _ _ _ _ dX9_lay_86 h
            · replace h := h.2 c
              refine j_iload (pc' := 68) hκ 4 rfl dX9_lay_66 rfl ?_
              refine j_if_lt (tgt := 85) (pc' := 71) hκ dX9_lay_68 (by decide) rfl (fun c => ?_) (fun c => ?_)
              · replace h := h.1 c
                refine j_iconst (pc' := 86) (v := (-1)) hκ (by decide) dX9_lay_85 rfl ?_
                exact hR _ _ _ _ dX9_lay_86 h
              · replace h := h.2 c
                refine j_iload_n (pc' := 72) hκ 3 rfl rfl dX9_lay_71 rfl ?_
                refine j_aload_n (pc' := 73) hκ 0 rfl rfl dX9_lay_72 rfl ?_
                refine jg_0_1 (pc' := 76) hκ (mi inlX9) (fl_in hκ (mc wm_1_20)) dX9_lay_73 rfl ?_
                refine jg_2_6 (pc' := 79) hκ (mi inlX7) (fl_ne hκ 0 rfl) dX9_lay_76 rfl ?_
                refine j_iload (pc' := 81) hκ 4 rfl dX9_lay_79 rfl ?_
                refine j_isub (pc' := 82) hκ dX9_lay_81 rfl ?_
                refine j_icmp_le (tgt := 87) (pc' := 85) hκ dX9_lay_82 (by decide) rfl (fun c => ?_) (fun c => ?_)
                · replace h := h.1 c
                  refine j_iconst (pc' := 88) (v := 0) hκ (by decide) dX9_lay_87 rfl ?_
                  refine j_istore (pc' := 90) (lv' := [(5, .int 0), (0, .ref (g.2.1 0)), (1, .int p1), (2, .int p2), (3, .int p3), (4, .int p4)]) hκ (Nat.le_of_ble_eq_true rfl) rfl dX9_lay_88 rfl ?_
                  obtain ⟨n, h⟩ := h
                  refine j_sub [1, 2, 3, 4, 5, 0] rfl ?_
                  refine lb_LR_lay_90 hκ hR ?_ n _ _ _ _ _ _  h
                  intro X8  h
                  refine j_aload_n (pc' := 129) hκ 0 rfl rfl dX9_lay_128 rfl ?_
                  refine jx_callVv (pc' := 132) hκ (c_LR_lanesChanged (dg hκ) h) rfl rfl rfl (gV wm_9_12 wm_9_13 wm_9_14 wm_1_2 wm_9_15) hqV_X9_lanesChanged ⟨Nat.le_of_ble_eq_true rfl, Nat.le_of_ble_eq_true rfl⟩ (wg_0 g _ _) rfl rfl rfl (Nat.le_of_ble_eq_true rfl) dX9_lay_129 rfl (fun X9 h => ?_)
                  refine j_iconst (pc' := 133) (v := 1) hκ (by decide) dX9_lay_132 rfl ?_
                  exact hR _ _ _ _ dX9_lay_133 h
                · replace h := h.2 c
                  refine j_iconst (pc' := 86) (v := (-1)) hκ (by decide) dX9_lay_85 rfl ?_
                  exact hR _ _ _ _ dX9_lay_86 h
      · replace h := h.2 c
        refine j_bipush (pc' := 42) (v := (-5)) hκ (by decide) dX9_lay_40 rfl ?_
        exact hR _ _ _ _ dX9_lay_42 h
    · replace h := h.2 c
      refine j_bipush (pc' := 26) (v := (-3)) hκ (by decide) dX9_lay_24 rfl ?_
      exact hR _ _ _ _ dX9_lay_26 h
  · replace h := h.2 c
    refine j_iconst (pc' := 12) (v := (-1)) hκ (by decide) dX9_lay_11 rfl ?_
    exact hR _ _ _ _ dX9_lay_12 h
theorem c_LR_lay {g : Gx} (hg : Dg g) {X M : ST} {p1 : Int32} {p2 : Int32} {p3 : Int32} {p4 : Int32} {post : Int32 → ST → Prop} (h : wp_LR_lay X p1 p2 p3 p4 post) (l : Launch) : Met l yX9_lay wq_X9_lay rm_LR_lay (va_Pc [.ref (g.2.1 0), .int p1, .int p2, .int p3, .int p4] (PU g X M)) (va_Qi post (fun Y t => va_P g.1 vwCl (ww g Y M) t.heap) (wA g)) 0 0 (wA g) :=
  met_xi hg (by decide) rfl [.ref (g.2.1 0), .int p1, .int p2, .int p3, .int p4] rfl (Nat.le_of_ble_eq_true rfl) (fun κ hκ hR => lb_LR_lay hκ hR h) l
theorem wm_4_1 : Cond.fieldLink RX7 27 "LampRound$Town" "ways" "[[I" ∈ wAll := inr_4 (List.mem_of_getElem? (i := 1) rfl)
theorem wm_15_6 : Cond.constant RX7 46 (1000000) ∈ wAll := inr_15 (List.mem_of_getElem? (i := 6) rfl)
abbrev rm_arr_fillI : Room := { frames := 0, cells := 0, slots := 0, locals := 0 }
def wp_arr_fillI_5_s (k0 n0 : Nat) (K20 : ST → Prop) (post : ST → Prop) (rec : ST → Int32 → Int32 → Int32 → Prop) (X : ST) (l1 : Int32) (l2 : Int32) (l3 : Int32) : Prop :=
  (l3 ≤ l2 → (K20 X)) ∧ (¬ l3 ≤ l2 → (vp_in l2 n0 ∧ (∀ X2 : ST, X2 = ks_sA X k0 (upd (X.2.2.1 k0) l2.toNatClampNeg l1) → rec X2 l1 (l2 + 1) l3)))
def wp_arr_fillI_5 (k0 n0 : Nat) (K20 : ST → Prop) (post : ST → Prop) : Nat → ST → Int32 → Int32 → Int32 → Prop
  | 0 => fun _ _ _ _ => False
  | n + 1 => wp_arr_fillI_5_s k0 n0 K20 post (wp_arr_fillI_5 k0 n0 K20 post n)
set_option maxHeartbeats 4000000 in
set_option maxRecDepth 100000 in
theorem lb_arr_fillI_5 {κ : Cx} {g : Gx} {M : ST} (hκ : CF κ g RJ7 cJ7_fill_53178 wq_J7_fill_53178 4 rm_arr_fillI) {post : ST → Prop} (hR : RtxV κ g 4 cJ7_fill_53178 M post) {a0 q0 k0 n0 : Nat} (hh0 : ahI g q0 k0 n0 a0) {K20 : ST → Prop} (hK20 : ∀ (X : ST), K20 X → Jw κ g 4 X M [] 20 []) : ∀ (n : Nat) (X : ST) (l1 : Int32) (l2 : Int32) (l3 : Int32), wp_arr_fillI_5 k0 n0 K20 post n X l1 l2 l3 → Jw κ g 4 X M [(0, .ref a0), (1, .int l1), (2, .int l2), (3, .int l3)] 5 [] := by
  intro n
  induction n with
  | zero =>
    intro X l1 l2 l3  h
    exact h.elim
  | succ n ih =>
    intro X l1 l2 l3  h
    have h : wp_arr_fillI_5_s k0 n0 K20 post (wp_arr_fillI_5 k0 n0 K20 post n) X l1 l2 l3 := h
    unfold wp_arr_fillI_5_s at h
    refine j_iload_n (pc' := 6) hκ 2 rfl rfl dJ7_fill_53178_5 rfl ?_
    refine j_iload_n (pc' := 7) hκ 3 rfl rfl dJ7_fill_53178_6 rfl ?_
    refine j_icmp_ge (tgt := 20) (pc' := 10) hκ dJ7_fill_53178_7 (by decide) rfl (fun c => ?_) (fun c => ?_)
    · replace h := h.1 c
      refine j_sub [] rfl ?_
      exact hK20 _  h
    · replace h := h.2 c
      refine j_aload_n (pc' := 11) hκ 0 rfl rfl dJ7_fill_53178_10 rfl ?_
      refine j_iload_n (pc' := 12) hκ 2 rfl rfl dJ7_fill_53178_11 rfl ?_
      refine j_iload_n (pc' := 13) hκ 1 rfl rfl dJ7_fill_53178_12 rfl ?_
      refine jx_iast (pc' := 14) hκ hh0 h.1 dJ7_fill_53178_13 rfl ?_
      replace h := h.2
      refine j_nmX (fun X2 eX2 => ?_)
      replace h := h X2 eX2
      refine j_iinc (pc' := 17) (v := l2 + 1) (lv' := [(2, .int (l2 + 1)), (0, .ref a0), (1, .int l1), (3, .int l3)]) hκ 2 rfl rfl (Nat.le_of_ble_eq_true rfl) rfl dJ7_fill_53178_14 rfl ?_
      refine j_goto (pc' := 5) hκ (by decide) dJ7_fill_53178_17 ?_
      refine j_sub [1, 2, 0, 3] rfl ?_
      exact ih _ _ _ _  h
def wp_arr_fillI (X : ST) (k0 n0 : Nat) (p1 : Int32) (post : ST → Prop) : Prop :=
  ∀ v1 : Int32, v1 = Int32.ofNat n0 → ∃ n, wp_arr_fillI_5 k0 n0 (fun X3 => post X3) post n X p1 0 v1
set_option maxHeartbeats 4000000 in
set_option maxRecDepth 100000 in
theorem lb_arr_fillI {κ : Cx} {g : Gx} {M : ST} (hκ : CF κ g RJ7 cJ7_fill_53178 wq_J7_fill_53178 4 rm_arr_fillI) {post : ST → Prop} (hR : RtxV κ g 4 cJ7_fill_53178 M post) {X : ST} {k0 n0 : Nat} {p1 : Int32} {a0 q0 : Nat} (hh0 : ahI g q0 k0 n0 a0) (h : wp_arr_fillI X k0 n0 p1 post) : Jw κ g 4 X M [(0, .ref a0), (1, .int p1)] 0 [] := by
  unfold wp_arr_fillI at h
  refine j_iconst (pc' := 1) (v := 0) hκ (by decide) dJ7_fill_53178_0 rfl ?_
  refine j_istore_n (pc' := 2) (lv' := [(2, .int 0), (0, .ref a0), (1, .int p1)]) hκ (Nat.le_of_ble_eq_true rfl) rfl rfl dJ7_fill_53178_1 rfl ?_
  refine j_aload_n (pc' := 3) hκ 1 rfl rfl dJ7_fill_53178_2 rfl ?_
  refine jx_alenI (pc' := 4) hκ hh0 dJ7_fill_53178_3 rfl ?_
  refine j_topi (fun v1 ev1 => ?_)
  replace h := h v1 ev1
  refine j_istore_n (pc' := 5) (lv' := [(3, .int v1), (2, .int 0), (0, .ref a0), (1, .int p1)]) hκ (Nat.le_of_ble_eq_true rfl) rfl rfl dJ7_fill_53178_4 rfl ?_
  obtain ⟨n, h⟩ := h
  refine j_sub [2, 3, 1, 0] rfl ?_
  refine lb_arr_fillI_5 hκ hR hh0 ?_ n _ _ _ _  h
  intro X3  h
  exact hR _ _ _ dJ7_fill_53178_20 h
theorem c_arr_fillI {g : Gx} (hg : Dg g) {X M : ST} {k0 n0 : Nat} {p1 : Int32} {a0 q0 : Nat} (hh0 : ahI g q0 k0 n0 a0) {post : ST → Prop} (h : wp_arr_fillI X k0 n0 p1 post) (l : Launch) : Met l yJ7_fill_53178 wq_J7_fill_53178 rm_arr_fillI (va_Pc [.ref a0, .int p1] (PU g X M)) (va_Qv post (fun Y t => va_P g.1 vwCl (ww g Y M) t.heap) (wA g)) 0 0 (wA g) :=
  met_xv hg (by decide) rfl [.ref a0, .int p1] rfl (Nat.le_of_ble_eq_true rfl) (fun κ hκ hR => lb_arr_fillI hκ hR hh0 h) l
theorem wm_15_7 : Cond.methodLink RX7 47 yJ7_fill_53178 ∈ wAll := inr_15 (List.mem_of_getElem? (i := 7) rfl)
theorem wm_3_13 : Cond.static yJ7_fill_53178 ∈ wAll := inr_3 (List.mem_of_getElem? (i := 13) rfl)
theorem wm_3_15 : Cond.code yJ7_fill_53178 cJ7_fill_53178 4 none ∈ wAll := inr_3 (List.mem_of_getElem? (i := 15) rfl)
theorem hqS_J7_fill_53178 : yJ7_fill_53178.cls ≠ "java/lang/invoke/MethodHandle" ∧ yJ7_fill_53178.cls ≠ "java/lang/invoke/VarHandle" ∧ (parseMethodDescriptor yJ7_fill_53178.desc).map (fun d => d.parameters.length) = some 2 := by decide +kernel
abbrev rm_Town_shorten : Room := { frames := 0, cells := 0, slots := 0, locals := 0 }
def wp_Town_shorten (X : ST) (k1 n1 : Nat) (p2 : Int32) (post : Int32 → ST → Prop) : Prop :=
  vp_in p2 100 ∧ (∀ v1 : Int32, v1 = x_Town_from X p2.toNatClampNeg → vp_in p2 100 ∧ (∀ v2 : Int32, v2 = x_Town_to X p2.toNatClampNeg → vp_in v1 n1 ∧ (vp_in p2 100 ∧ (vp_in v2 n1 ∧ (((X.2.2.1 k1 v2.toNatClampNeg) ≤ ((X.2.2.1 k1 v1.toNatClampNeg) + (x_Town_size X p2.toNatClampNeg)) → (vp_in v2 n1 ∧ (vp_in p2 100 ∧ (vp_in v1 n1 ∧ (((X.2.2.1 k1 v1.toNatClampNeg) ≤ ((X.2.2.1 k1 v2.toNatClampNeg) + (x_Town_size X p2.toNatClampNeg)) → (post 0 X)) ∧ (¬ (X.2.2.1 k1 v1.toNatClampNeg) ≤ ((X.2.2.1 k1 v2.toNatClampNeg) + (x_Town_size X p2.toNatClampNeg)) → (vp_in v2 n1 ∧ (vp_in p2 100 ∧ (vp_in v1 n1 ∧ (∀ X3 : ST, X3 = ks_sA X k1 (upd (X.2.2.1 k1) v1.toNatClampNeg ((X.2.2.1 k1 v2.toNatClampNeg) + (x_Town_size X p2.toNatClampNeg))) → post 1 X3)))))))))) ∧ (¬ (X.2.2.1 k1 v2.toNatClampNeg) ≤ ((X.2.2.1 k1 v1.toNatClampNeg) + (x_Town_size X p2.toNatClampNeg)) → (vp_in v1 n1 ∧ (vp_in p2 100 ∧ (vp_in v2 n1 ∧ (∀ X4 : ST, X4 = ks_sA X k1 (upd (X.2.2.1 k1) v2.toNatClampNeg ((X.2.2.1 k1 v1.toNatClampNeg) + (x_Town_size X p2.toNatClampNeg))) → post 1 X4))))))))))
set_option maxHeartbeats 4000000 in
set_option maxRecDepth 100000 in
theorem lb_Town_shorten {κ : Cx} {g : Gx} {M : ST} (hκ : CF κ g RX7 cX7_shorten wq_X7_shorten 5 rm_Town_shorten) {post : Int32 → ST → Prop} (hR : RtxZ κ g 5 cX7_shorten M post) {X : ST} {k1 n1 : Nat} {p2 : Int32} {a1 q1 : Nat} (hh1 : ahI g q1 k1 n1 a1) (h : wp_Town_shorten X k1 n1 p2 post) : Jw κ g 5 X M [(0, .ref (g.2.1 2)), (1, .ref a1), (2, .int p2)] 0 [] := by
  unfold wp_Town_shorten at h
  refine j_aload_n (pc' := 1) hκ 0 rfl rfl dX7_shorten_0 rfl ?_
  refine jg_2_0 (pc' := 4) hκ (mi inlX7) (fl_in hκ (mc wm_3_19)) dX7_shorten_1 rfl ?_
  refine j_iload_n (pc' := 5) hκ 2 rfl rfl dX7_shorten_4 rfl ?_
  refine jx_iald (pc' := 6) hκ (ah_15 g) h.1 dX7_shorten_5 rfl ?_
  replace h := h.2
  refine j_topi (fun v1 ev1 => ?_)
  replace h := h v1 ev1
  refine j_istore_n (pc' := 7) (lv' := [(3, .int v1), (0, .ref (g.2.1 2)), (1, .ref a1), (2, .int p2)]) hκ (Nat.le_of_ble_eq_true rfl) rfl rfl dX7_shorten_6 rfl ?_
  refine j_aload_n (pc' := 8) hκ 1 rfl rfl dX7_shorten_7 rfl ?_
  refine jg_2_1 (pc' := 11) hκ (mi inlX7) (fl_in hκ (mc wm_3_20)) dX7_shorten_8 rfl ?_
  refine j_iload_n (pc' := 12) hκ 3 rfl rfl dX7_shorten_11 rfl ?_
  refine jx_iald (pc' := 13) hκ (ah_16 g) h.1 dX7_shorten_12 rfl ?_
  replace h := h.2
  refine j_topi (fun v2 ev2 => ?_)
  replace h := h v2 ev2
  refine j_istore (pc' := 15) (lv' := [(4, .int v2), (3, .int v1), (0, .ref (g.2.1 2)), (1, .ref a1), (2, .int p2)]) hκ (Nat.le_of_ble_eq_true rfl) rfl dX7_shorten_13 rfl ?_
  refine j_aload_n (pc' := 16) hκ 3 rfl rfl dX7_shorten_15 rfl ?_
  refine j_iload_n (pc' := 17) hκ 1 rfl rfl dX7_shorten_16 rfl ?_
  refine jx_iald (pc' := 18) hκ hh1 h.1 dX7_shorten_17 rfl ?_
  replace h := h.2
  refine j_aload_n (pc' := 19) hκ 2 rfl rfl dX7_shorten_18 rfl ?_
  refine jg_2_2 (pc' := 22) hκ (mi inlX7) (fl_in hκ (mc wm_3_21)) dX7_shorten_19 rfl ?_
  refine j_iload_n (pc' := 23) hκ 4 rfl rfl dX7_shorten_22 rfl ?_
  refine jx_iald (pc' := 24) hκ (ah_17 g) h.1 dX7_shorten_23 rfl ?_
  replace h := h.2
  refine j_iadd (pc' := 25) hκ dX7_shorten_24 rfl ?_
  refine j_aload_n (pc' := 26) hκ 3 rfl rfl dX7_shorten_25 rfl ?_
  refine j_iload (pc' := 28) hκ 0 rfl dX7_shorten_26 rfl ?_
  refine jx_iald (pc' := 29) hκ hh1 h.1 dX7_shorten_28 rfl ?_
  replace h := h.2
  refine j_icmp_ge (tgt := 48) (pc' := 32) hκ dX7_shorten_29 (by decide) rfl (fun c => ?_) (fun c => ?_)
  · replace h := h.1 c
    refine j_aload_n (pc' := 49) hκ 3 rfl rfl dX7_shorten_48 rfl ?_
    refine j_iload (pc' := 51) hκ 0 rfl dX7_shorten_49 rfl ?_
    refine jx_iald (pc' := 52) hκ hh1 h.1 dX7_shorten_51 rfl ?_
    replace h := h.2
    refine j_aload_n (pc' := 53) hκ 2 rfl rfl dX7_shorten_52 rfl ?_
    refine jg_2_2 (pc' := 56) hκ (mi inlX7) (fl_in hκ (mc wm_3_21)) dX7_shorten_53 rfl ?_
    refine j_iload_n (pc' := 57) hκ 4 rfl rfl dX7_shorten_56 rfl ?_
    refine jx_iald (pc' := 58) hκ (ah_17 g) h.1 dX7_shorten_57 rfl ?_
    replace h := h.2
    refine j_iadd (pc' := 59) hκ dX7_shorten_58 rfl ?_
    refine j_aload_n (pc' := 60) hκ 3 rfl rfl dX7_shorten_59 rfl ?_
    refine j_iload_n (pc' := 61) hκ 1 rfl rfl dX7_shorten_60 rfl ?_
    refine jx_iald (pc' := 62) hκ hh1 h.1 dX7_shorten_61 rfl ?_
    replace h := h.2
    refine j_icmp_ge (tgt := 81) (pc' := 65) hκ dX7_shorten_62 (by decide) rfl (fun c => ?_) (fun c => ?_)
    · replace h := h.1 c
      refine j_iconst (pc' := 82) (v := 0) hκ (by decide) dX7_shorten_81 rfl ?_
      exact hR _ _ _ _ dX7_shorten_82 (Or.inl rfl) h
    · replace h := h.2 c
      refine j_aload_n (pc' := 66) hκ 3 rfl rfl dX7_shorten_65 rfl ?_
      refine j_iload_n (pc' := 67) hκ 1 rfl rfl dX7_shorten_66 rfl ?_
      refine j_aload_n (pc' := 68) hκ 3 rfl rfl dX7_shorten_67 rfl ?_
      refine j_iload (pc' := 70) hκ 0 rfl dX7_shorten_68 rfl ?_
      refine jx_iald (pc' := 71) hκ hh1 h.1 dX7_shorten_70 rfl ?_
      replace h := h.2
      refine j_aload_n (pc' := 72) hκ 2 rfl rfl dX7_shorten_71 rfl ?_
      refine jg_2_2 (pc' := 75) hκ (mi inlX7) (fl_in hκ (mc wm_3_21)) dX7_shorten_72 rfl ?_
      refine j_iload_n (pc' := 76) hκ 4 rfl rfl dX7_shorten_75 rfl ?_
      refine jx_iald (pc' := 77) hκ (ah_17 g) h.1 dX7_shorten_76 rfl ?_
      replace h := h.2
      refine j_iadd (pc' := 78) hκ dX7_shorten_77 rfl ?_
      refine jx_iast (pc' := 79) hκ hh1 h.1 dX7_shorten_78 rfl ?_
      replace h := h.2
      refine j_nmX (fun X3 eX3 => ?_)
      replace h := h X3 eX3
      refine j_iconst (pc' := 80) (v := 1) hκ (by decide) dX7_shorten_79 rfl ?_
      exact hR _ _ _ _ dX7_shorten_80 (Or.inr rfl) h
  · replace h := h.2 c
    refine j_aload_n (pc' := 33) hκ 3 rfl rfl dX7_shorten_32 rfl ?_
    refine j_iload (pc' := 35) hκ 0 rfl dX7_shorten_33 rfl ?_
    refine j_aload_n (pc' := 36) hκ 3 rfl rfl dX7_shorten_35 rfl ?_
    refine j_iload_n (pc' := 37) hκ 1 rfl rfl dX7_shorten_36 rfl ?_
    refine jx_iald (pc' := 38) hκ hh1 h.1 dX7_shorten_37 rfl ?_
    replace h := h.2
    refine j_aload_n (pc' := 39) hκ 2 rfl rfl dX7_shorten_38 rfl ?_
    refine jg_2_2 (pc' := 42) hκ (mi inlX7) (fl_in hκ (mc wm_3_21)) dX7_shorten_39 rfl ?_
    refine j_iload_n (pc' := 43) hκ 4 rfl rfl dX7_shorten_42 rfl ?_
    refine jx_iald (pc' := 44) hκ (ah_17 g) h.1 dX7_shorten_43 rfl ?_
    replace h := h.2
    refine j_iadd (pc' := 45) hκ dX7_shorten_44 rfl ?_
    refine jx_iast (pc' := 46) hκ hh1 h.1 dX7_shorten_45 rfl ?_
    replace h := h.2
    refine j_nmX (fun X4 eX4 => ?_)
    replace h := h X4 eX4
    refine j_iconst (pc' := 47) (v := 1) hκ (by decide) dX7_shorten_46 rfl ?_
    exact hR _ _ _ _ dX7_shorten_47 (Or.inr rfl) h
theorem c_Town_shorten {g : Gx} (hg : Dg g) {X M : ST} {k1 n1 : Nat} {p2 : Int32} {a1 q1 : Nat} (hh1 : ahI g q1 k1 n1 a1) {post : Int32 → ST → Prop} (h : wp_Town_shorten X k1 n1 p2 post) (l : Launch) : Met l yX7_shorten wq_X7_shorten rm_Town_shorten (va_Pc [.ref (g.2.1 2), .ref a1, .int p2] (PU g X M)) (va_Qi post (fun Y t => va_P g.1 vwCl (ww g Y M) t.heap) (wA g)) 0 0 (wA g) :=
  met_xz hg (by decide) rfl [.ref (g.2.1 2), .ref a1, .int p2] rfl (Nat.le_of_ble_eq_true rfl) (fun κ hκ hR => lb_Town_shorten hκ hR hh1 h) l
