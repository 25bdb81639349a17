theorem wm_30_17 : Cond.methodLink RX9 279 yX6_turnFirstShorter ∈ wAll := inr_30 (List.mem_of_getElem? (i := 17) rfl)
theorem wm_30_18 : Cond.instanceMethod yX6_turnFirstShorter ∈ wAll := inr_30 (List.mem_of_getElem? (i := 18) rfl)
theorem wm_30_19 : Cond.selects RX6 yX6_turnFirstShorter yX6_turnFirstShorter ∈ wAll := inr_30 (List.mem_of_getElem? (i := 19) rfl)
theorem wm_30_20 : Cond.code yX6_turnFirstShorter cX6_turnFirstShorter 4 (some .boolean) ∈ wAll := inr_30 (List.mem_of_getElem? (i := 20) rfl)
theorem hqV_X6_turnFirstShorter : yX6_turnFirstShorter.cls = RX6 ∧ yX6_turnFirstShorter.cls ≠ "java/lang/invoke/MethodHandle" ∧ yX6_turnFirstShorter.cls ≠ "java/lang/invoke/VarHandle" ∧ (parseMethodDescriptor yX6_turnFirstShorter.desc).map (fun d => d.parameters.length) = some 0 := by decide +kernel
abbrev rm_LR_better : Room := { frames := 6, cells := 0, slots := 0, locals := 138 }
def wp_LR_better_30_s (K52 : ST → Int32 → Prop) (post : Int32 → ST → Prop) (rec : ST → Int32 → Prop) (X : ST) (l1 : Int32) : Prop :=
  (100 ≤ l1 → (K52 X l1)) ∧ (¬ 100 ≤ l1 → (wp_Told_turnFirstShorter X (fun r6 X5 => (r6 = 0 → (K52 X5 l1)) ∧ (¬ r6 = 0 → (rec X5 (l1 + 1))))))
def wp_LR_better_30 (K52 : ST → Int32 → Prop) (post : Int32 → ST → Prop) : Nat → ST → Int32 → Prop
  | 0 => fun _ _ => False
  | n + 1 => wp_LR_better_30_s K52 post (wp_LR_better_30 K52 post n)
set_option maxHeartbeats 4000000 in
set_option maxRecDepth 100000 in
theorem lb_LR_better_30 {κ : Cx} {g : Gx} {M : ST} (hκ : CF κ g RX9 cX9_better wq_X9_better 2 rm_LR_better) {post : Int32 → ST → Prop} (hR : RtxI κ g 2 cX9_better M post) {K52 : ST → Int32 → Prop} (hK52 : ∀ (X : ST) (l1 : Int32), K52 X l1 → Jw κ g 2 X M [(1, .int l1)] 52 []) : ∀ (n : Nat) (X : ST) (l1 : Int32), wp_LR_better_30 K52 post n X l1 → Jw κ g 2 X M [(0, .ref (g.2.1 0)), (1, .int l1)] 30 [] := by
  intro n
  induction n with
  | zero =>
    intro X l1  h
    exact h.elim
  | succ n ih =>
    intro X l1  h
    have h : wp_LR_better_30_s K52 post (wp_LR_better_30 K52 post n) X l1 := h
    unfold wp_LR_better_30_s at h
    refine j_iload_n (pc' := 31) hκ 1 rfl rfl dX9_better_30 rfl ?_
    refine j_bipush (pc' := 33) (v := 100) hκ (by decide) dX9_better_31 rfl ?_
    refine j_icmp_ge (tgt := 52) (pc' := 36) hκ dX9_better_33 (by decide) rfl (fun c => ?_) (fun c => ?_)
    · replace h := h.1 c
      refine j_sub [1] rfl ?_
      exact hK52 _ _  h
    · replace h := h.2 c
      refine j_aload_n (pc' := 37) hκ 0 rfl rfl dX9_better_36 rfl ?_
      refine jg_0_3 (pc' := 40) hκ (mi inlX9) (fl_in hκ (mc wm_2_4)) dX9_better_37 rfl ?_
      refine jx_callVi (pc' := 43) hκ (c_Told_turnFirstShorter (dg hκ) h) rfl rfl rfl (gV wm_30_17 wm_30_18 wm_30_19 wm_2_3 wm_30_20) hqV_X6_turnFirstShorter ⟨Nat.le_of_ble_eq_true rfl, Nat.le_of_ble_eq_true rfl⟩ (wg_4 g _ _) rfl rfl rfl (Nat.le_of_ble_eq_true rfl) dX9_better_40 rfl (fun r6 X5 h => ?_)
      refine j_if_eq (tgt := 52) (pc' := 46) hκ dX9_better_43 (by decide) rfl (fun c => ?_) (fun c => ?_)
      · replace h := h.1 c
        refine j_sub [1] rfl ?_
        exact hK52 _ _  h
      · replace h := h.2 c
        refine j_iinc (pc' := 49) (v := l1 + 1) (lv' := [(1, .int (l1 + 1)), (0, .ref (g.2.1 0))]) hκ 1 rfl rfl (Nat.le_of_ble_eq_true rfl) rfl dX9_better_46 rfl ?_
        refine j_goto (pc' := 30) hκ (by decide) dX9_better_49 ?_
        refine j_sub [1, 0] rfl ?_
        exact ih _ _  h
def wp_LR_better (X : ST) (post : Int32 → ST → Prop) : Prop :=
  wp_Told_isWhole X (fun r2 X1 => (¬ r2 = 0 → (wp_Told_measure X1 (fun r4 X3 => (r4 < 1000000 → (∃ n, wp_LR_better_30 (fun X7 v8 => post v8 X7) post n X3 0)) ∧ (¬ r4 < 1000000 → (post (-10) X3))))) ∧ (r2 = 0 → (post (-4) X1)))
set_option maxHeartbeats 4000000 in
set_option maxRecDepth 100000 in
theorem lb_LR_better {κ : Cx} {g : Gx} {M : ST} (hκ : CF κ g RX9 cX9_better wq_X9_better 2 rm_LR_better) {post : Int32 → ST → Prop} (hR : RtxI κ g 2 cX9_better M post) {X : ST} (h : wp_LR_better X post) : Jw κ g 2 X M [(0, .ref (g.2.1 0))] 0 [] := by
  unfold wp_LR_better at h
  refine j_aload_n (pc' := 1) hκ 0 rfl rfl dX9_better_0 rfl ?_
  refine jg_0_3 (pc' := 4) hκ (mi inlX9) (fl_in hκ (mc wm_2_4)) dX9_better_1 rfl ?_
  refine jx_callVi (pc' := 7) hκ (c_Told_isWhole (dg hκ) h) rfl rfl rfl (gV wm_25_15 wm_25_16 wm_25_17 wm_2_3 wm_25_18) hqV_X6_isWhole ⟨Nat.le_of_ble_eq_true rfl, Nat.le_of_ble_eq_true rfl⟩ (wg_4 g _ _) rfl rfl rfl (Nat.le_of_ble_eq_true rfl) dX9_better_4 rfl (fun r2 X1 h => ?_)
  refine j_if_ne (tgt := 13) (pc' := 10) hκ dX9_better_7 (by decide) rfl (fun c => ?_) (fun c => ?_)
  · replace h := h.1 c
    refine j_aload_n (pc' := 14) hκ 0 rfl rfl dX9_better_13 rfl ?_
    refine jg_0_3 (pc' := 17) hκ (mi inlX9) (fl_in hκ (mc wm_2_4)) dX9_better_14 rfl ?_
    refine jx_callVi (pc' := 20) hκ (c_Told_measure (dg hκ) h) rfl rfl rfl (gV wm_29_0 wm_29_1 wm_29_2 wm_2_3 wm_29_3) hqV_X6_measure ⟨Nat.le_of_ble_eq_true rfl, Nat.le_of_ble_eq_true rfl⟩ (wg_4 g _ _) rfl rfl rfl (Nat.le_of_ble_eq_true rfl) dX9_better_17 rfl (fun r4 X3 h => ?_)
    refine j_ldc (pc' := 22) hκ (mc wm_14_21) dX9_better_20 rfl ?_
    refine j_icmp_lt (tgt := 28) (pc' := 25) hκ dX9_better_22 (by decide) rfl (fun c => ?_) (fun c => ?_)
    · replace h := h.1 c
      refine j_iconst (pc' := 29) (v := 0) hκ (by decide) dX9_better_28 rfl ?_
      refine j_istore_n (pc' := 30) (lv' := [(1, .int 0), (0, .ref (g.2.1 0))]) hκ (Nat.le_of_ble_eq_true rfl) rfl rfl dX9_better_29 rfl ?_
      obtain ⟨n, h⟩ := h
      refine j_sub [1, 0] rfl ?_
      refine lb_LR_better_30 hκ hR ?_ n _ _  h
      intro X7 v8  h
      refine j_iload_n (pc' := 53) hκ 0 rfl rfl dX9_better_52 rfl ?_
      exact hR _ _ _ _ dX9_better_53 h
    · replace h := h.2 c
      refine j_bipush (pc' := 27) (v := (-10)) hκ (by decide) dX9_better_25 rfl ?_
      exact hR _ _ _ _ dX9_better_27 h
  · replace h := h.2 c
    refine j_bipush (pc' := 12) (v := (-4)) hκ (by decide) dX9_better_10 rfl ?_
    exact hR _ _ _ _ dX9_better_12 h
theorem c_LR_better {g : Gx} (hg : Dg g) {X M : ST} {post : Int32 → ST → Prop} (h : wp_LR_better X post) (l : Launch) : Met l yX9_better wq_X9_better rm_LR_better (va_Pc [.ref (g.2.1 0)] (PU g X M)) (va_Qi post (fun Y t => va_P g.1 vwCl (ww g Y M) t.heap) (wA g)) 0 0 (wA g) :=
  met_xi hg (by decide) rfl [.ref (g.2.1 0)] rfl (Nat.le_of_ble_eq_true rfl) (fun κ hκ hR => lb_LR_better hκ hR h) l
theorem wm_31_16 : Cond.constant RX9 282 (-100000) ∈ wAll := inr_31 (List.mem_of_getElem? (i := 16) rfl)
theorem wm_31_17 : Cond.constant RX9 283 (100000) ∈ wAll := inr_31 (List.mem_of_getElem? (i := 17) rfl)
abbrev rm_LR_price : Room := { frames := 1, cells := 0, slots := 0, locals := 21 }
def wp_LR_price (X : ST) (p1 : Int32) (p2 : Int32) (post : Int32 → ST → Prop) : Prop :=
  wp_Lamps_isLamp X p1 (fun r2 X1 => (r2 = 0 → (post (-1) X1)) ∧ (¬ r2 = 0 → ((p2 < (-100000) → (post (-1) X1)) ∧ (¬ p2 < (-100000) → ((p2 ≤ 100000 → (vp_in p1 12 ∧ (∀ X3 : ST, X3 = xs_Lamps_prices X1 (upd (x_Lamps_prices X1) p1.toNatClampNeg p2) → post 1 X3))) ∧ (¬ p2 ≤ 100000 → (post (-1) X1)))))))
set_option maxHeartbeats 4000000 in
set_option maxRecDepth 100000 in
theorem lb_LR_price {κ : Cx} {g : Gx} {M : ST} (hκ : CF κ g RX9 cX9_price wq_X9_price 3 rm_LR_price) {post : Int32 → ST → Prop} (hR : RtxI κ g 3 cX9_price M post) {X : ST} {p1 : Int32} {p2 : Int32} (h : wp_LR_price X p1 p2 post) : Jw κ g 3 X M [(0, .ref (g.2.1 0)), (1, .int p1), (2, .int p2)] 0 [] := by
  unfold wp_LR_price at h
  refine j_aload_n (pc' := 1) hκ 0 rfl rfl dX9_price_0 rfl ?_
  refine jg_0_2 (pc' := 4) hκ (mi inlX9) (fl_in hκ (mc wm_2_0)) dX9_price_1 rfl ?_
  refine j_iload_n (pc' := 5) hκ 1 rfl rfl dX9_price_4 rfl ?_
  refine jx_callVi (pc' := 8) hκ (c_Lamps_isLamp (dg hκ) h) rfl rfl rfl (gV wm_17_1 wm_17_2 wm_17_3 wm_1_23 wm_17_4) hqV_X2_isLamp ⟨Nat.le_of_ble_eq_true rfl, Nat.le_of_ble_eq_true rfl⟩ (wg_3 g _ _) rfl rfl rfl (Nat.le_of_ble_eq_true rfl) dX9_price_5 rfl (fun r2 X1 h => ?_)
  refine j_if_eq (tgt := 25) (pc' := 11) hκ dX9_price_8 (by decide) rfl (fun c => ?_) (fun c => ?_)
  · replace h := h.1 c
    refine j_iconst (pc' := 26) (v := (-1)) hκ (by decide) dX9_price_25 rfl ?_
    exact hR _ _ _ _ dX9_price_26 h
  · replace h := h.2 c
    refine j_iload_n (pc' := 12) hκ 2 rfl rfl dX9_price_11 rfl ?_
    refine j_ldc_w (pc' := 15) hκ (mc wm_31_16) dX9_price_12 rfl ?_
    refine j_icmp_lt (tgt := 25) (pc' := 18) hκ dX9_price_15 (by decide) rfl (fun c => ?_) (fun c => ?_)
    · replace h := h.1 c
      refine j_iconst (pc' := 26) (v := (-1)) hκ (by decide) dX9_price_25 rfl ?_
      exact hR _ _ _ _ dX9_price_26 h
    · replace h := h.2 c
      refine j_iload_n (pc' := 19) hκ 2 rfl rfl dX9_price_18 rfl ?_
      refine j_ldc_w (pc' := 22) hκ (mc wm_31_17) dX9_price_19 rfl ?_
      refine j_icmp_le (tgt := 27) (pc' := 25) hκ dX9_price_22 (by decide) rfl (fun c => ?_) (fun c => ?_)
      · replace h := h.1 c
        refine j_aload_n (pc' := 28) hκ 0 rfl rfl dX9_price_27 rfl ?_
        refine jg_0_2 (pc' := 31) hκ (mi inlX9) (fl_in hκ (mc wm_2_0)) dX9_price_28 rfl ?_
        refine jg_3_4 (pc' := 34) hκ (mi inlX2) (fl_ne hκ 12 rfl) dX9_price_31 rfl ?_
        refine j_iload_n (pc' := 35) hκ 1 rfl rfl dX9_price_34 rfl ?_
        refine j_iload_n (pc' := 36) hκ 2 rfl rfl dX9_price_35 rfl ?_
        refine jx_iast (pc' := 37) hκ (ah_23 g) h.1 dX9_price_36 rfl ?_
        replace h := h.2
        refine j_nmX (fun X3 eX3 => ?_)
        replace h := h X3 eX3
        refine j_iconst (pc' := 38) (v := 1) hκ (by decide) dX9_price_37 rfl ?_
        exact hR _ _ _ _ dX9_price_38 h
      · replace h := h.2 c
        refine j_iconst (pc' := 26) (v := (-1)) hκ (by decide) dX9_price_25 rfl ?_
        exact hR _ _ _ _ dX9_price_26 h
theorem c_LR_price {g : Gx} (hg : Dg g) {X M : ST} {p1 : Int32} {p2 : Int32} {post : Int32 → ST → Prop} (h : wp_LR_price X p1 p2 post) (l : Launch) : Met l yX9_price wq_X9_price rm_LR_price (va_Pc [.ref (g.2.1 0), .int p1, .int p2] (PU g X M)) (va_Qi post (fun Y t => va_P g.1 vwCl (ww g Y M) t.heap) (wA g)) 0 0 (wA g) :=
  met_xi hg (by decide) rfl [.ref (g.2.1 0), .int p1, .int p2] rfl (Nat.le_of_ble_eq_true rfl) (fun κ hκ hR => lb_LR_price hκ hR h) l
abbrev rm_LR_isTooSmall : Room := { frames := 2, cells := 0, slots := 0, locals := 40 }
def wp_LR_isTooSmall (X : ST) (post : Int32 → ST → Prop) : Prop :=
  wp_Lamps_liveCount X (fun r2 X1 => (3 ≤ r2 → (post 0 X1)) ∧ (¬ 3 ≤ r2 → (post 1 X1)))
set_option maxHeartbeats 4000000 in
set_option maxRecDepth 100000 in
theorem lb_LR_isTooSmall {κ : Cx} {g : Gx} {M : ST} (hκ : CF κ g RX9 cX9_isTooSmall wq_X9_isTooSmall 1 rm_LR_isTooSmall) {post : Int32 → ST → Prop} (hR : RtxZ κ g 1 cX9_isTooSmall M post) {X : ST} (h : wp_LR_isTooSmall X post) : Jw κ g 1 X M [(0, .ref (g.2.1 0))] 0 [] := by
  unfold wp_LR_isTooSmall at h
  refine j_aload_n (pc' := 1) hκ 0 rfl rfl dX9_isTooSmall_0 rfl ?_
  refine jg_0_2 (pc' := 4) hκ (mi inlX9) (fl_in hκ (mc wm_2_0)) dX9_isTooSmall_1 rfl ?_
  refine jx_callVi (pc' := 7) hκ (c_Lamps_liveCount (dg hκ) h) rfl rfl rfl (gV wm_20_19 wm_20_20 wm_20_21 wm_1_23 wm_20_22) hqV_X2_liveCount ⟨Nat.le_of_ble_eq_true rfl, Nat.le_of_ble_eq_true rfl⟩ (wg_3 g _ _) rfl rfl rfl (Nat.le_of_ble_eq_true rfl) dX9_isTooSmall_4 rfl (fun r2 X1 h => ?_)
  refine j_iconst (pc' := 8) (v := 3) hκ (by decide) dX9_isTooSmall_7 rfl ?_
  refine j_icmp_ge (tgt := 15) (pc' := 11) hκ dX9_isTooSmall_8 (by decide) rfl (fun c => ?_) (fun c => ?_)
  · replace h := h.1 c
    refine j_iconst (pc' := 16) (v := 0) hκ (by decide) dX9_isTooSmall_15 rfl ?_
    exact hR _ _ _ _ dX9_isTooSmall_16 (Or.inl rfl) h
  · replace h := h.2 c
    refine j_iconst (pc' := 12) (v := 1) hκ (by decide) dX9_isTooSmall_11 rfl ?_
    refine j_goto (pc' := 16) hκ (by decide) dX9_isTooSmall_12 ?_
    exact hR _ _ _ _ dX9_isTooSmall_16 (Or.inr rfl) h
theorem c_LR_isTooSmall {g : Gx} (hg : Dg g) {X M : ST} {post : Int32 → ST → Prop} (h : wp_LR_isTooSmall X post) (l : Launch) : Met l yX9_isTooSmall wq_X9_isTooSmall rm_LR_isTooSmall (va_Pc [.ref (g.2.1 0)] (PU g X M)) (va_Qi post (fun Y t => va_P g.1 vwCl (ww g Y M) t.heap) (wA g)) 0 0 (wA g) :=
  met_xz hg (by decide) rfl [.ref (g.2.1 0)] rfl (Nat.le_of_ble_eq_true rfl) (fun κ hκ hR => lb_LR_isTooSmall hκ hR h) l
theorem wm_32_5 : Cond.methodLink RX9 284 yX9_isTooSmall ∈ wAll := inr_32 (List.mem_of_getElem? (i := 5) rfl)
theorem wm_32_6 : Cond.instanceMethod yX9_isTooSmall ∈ wAll := inr_32 (List.mem_of_getElem? (i := 6) rfl)
theorem wm_32_7 : Cond.selects RX9 yX9_isTooSmall yX9_isTooSmall ∈ wAll := inr_32 (List.mem_of_getElem? (i := 7) rfl)
theorem wm_32_8 : Cond.code yX9_isTooSmall cX9_isTooSmall 1 (some .boolean) ∈ wAll := inr_32 (List.mem_of_getElem? (i := 8) rfl)
theorem hqV_X9_isTooSmall : yX9_isTooSmall.cls = RX9 ∧ yX9_isTooSmall.cls ≠ "java/lang/invoke/MethodHandle" ∧ yX9_isTooSmall.cls ≠ "java/lang/invoke/VarHandle" ∧ (parseMethodDescriptor yX9_isTooSmall.desc).map (fun d => d.parameters.length) = some 0 := by decide +kernel
theorem wm_2_12 : Cond.fieldLink RX9 51 "LampRound" "present" "LLampRound$Case;" ∈ wAll := inr_2 (List.mem_of_getElem? (i := 12) rfl)
theorem wm_5_21 : Cond.fieldLink RX0 9 "LampRound$Case" "joined" "[I" ∈ wAll := inr_5 (List.mem_of_getElem? (i := 21) rfl)
theorem wm_32_21 : Cond.methodLink RX0 33 yJ7_fill_53178 ∈ wAll := inr_32 (List.mem_of_getElem? (i := 21) rfl)
theorem wm_5_22 : Cond.fieldLink RX0 15 "LampRound$Case" "parted" "[I" ∈ wAll := inr_5 (List.mem_of_getElem? (i := 22) rfl)
theorem wm_6_1 : Cond.fieldLink RX0 25 "LampRound$Case" "depth" "I" ∈ wAll := inr_6 (List.mem_of_getElem? (i := 1) rfl)
theorem wm_6_2 : Cond.fieldLink RX0 29 "LampRound$Case" "isOver" "Z" ∈ wAll := inr_6 (List.mem_of_getElem? (i := 2) rfl)
abbrev rm_Case_startEmpty : Room := { frames := 1, cells := 0, slots := 0, locals := 23 }
def wp_Case_startEmpty (X : ST) (post : ST → Prop) : Prop :=
  wp_arr_fillI X 34 12 0 (fun X1 => wp_arr_fillI X1 35 12 0 (fun X3 => ∀ X5 : ST, X5 = xs_Case_depth X3 0 → ∀ X6 : ST, X6 = xs_Case_isOver X5 0 → post X6))
set_option maxHeartbeats 4000000 in
set_option maxRecDepth 100000 in
theorem lb_Case_startEmpty {κ : Cx} {g : Gx} {M : ST} (hκ : CF κ g RX0 cX0_startEmpty wq_X0_startEmpty 1 rm_Case_startEmpty) {post : ST → Prop} (hR : RtxV κ g 1 cX0_startEmpty M post) {X : ST} (h : wp_Case_startEmpty X post) : Jw κ g 1 X M [(0, .ref (g.2.1 6))] 0 [] := by
  unfold wp_Case_startEmpty at h
  refine j_aload_n (pc' := 1) hκ 0 rfl rfl dX0_startEmpty_0 rfl ?_
  refine jg_6_0 (pc' := 4) hκ (mi inlX0) (fl_in hκ (mc wm_5_21)) dX0_startEmpty_1 rfl ?_
  refine j_iconst (pc' := 5) (v := 0) hκ (by decide) dX0_startEmpty_4 rfl ?_
  refine jx_callSv (pc' := 8) hκ (c_arr_fillI (dg hκ) (ah_34 g) h) rfl rfl rfl (gS wm_32_21 wm_3_13 wm_3_14 wm_3_15) hqS_J7_fill_53178 ⟨Nat.le_of_ble_eq_true rfl, Nat.le_of_ble_eq_true rfl⟩ rfl rfl (Nat.le_of_ble_eq_true rfl) dX0_startEmpty_5 rfl (fun X1 h => ?_)
  refine j_aload_n (pc' := 9) hκ 0 rfl rfl dX0_startEmpty_8 rfl ?_
  refine jg_6_1 (pc' := 12) hκ (mi inlX0) (fl_in hκ (mc wm_5_22)) dX0_startEmpty_9 rfl ?_
  refine j_iconst (pc' := 13) (v := 0) hκ (by decide) dX0_startEmpty_12 rfl ?_
  refine jx_callSv (pc' := 16) hκ (c_arr_fillI (dg hκ) (ah_35 g) h) rfl rfl rfl (gS wm_32_21 wm_3_13 wm_3_14 wm_3_15) hqS_J7_fill_53178 ⟨Nat.le_of_ble_eq_true rfl, Nat.le_of_ble_eq_true rfl⟩ rfl rfl (Nat.le_of_ble_eq_true rfl) dX0_startEmpty_13 rfl (fun X3 h => ?_)
  refine j_aload_n (pc' := 17) hκ 0 rfl rfl dX0_startEmpty_16 rfl ?_
  refine j_iconst (pc' := 18) (v := 0) hκ (by decide) dX0_startEmpty_17 rfl ?_
  refine jp_6_4 (pc' := 21) hκ (mi inlX0) (fl_in hκ (mc wm_6_1)) dX0_startEmpty_18 rfl ?_
  refine j_nmX (fun X5 eX5 => ?_)
  replace h := h X5 eX5
  refine j_aload_n (pc' := 22) hκ 0 rfl rfl dX0_startEmpty_21 rfl ?_
  refine j_iconst (pc' := 23) (v := 0) hκ (by decide) dX0_startEmpty_22 rfl ?_
  refine jp_6_5 (pc' := 26) hκ (mi inlX0) (fl_in hκ (mc wm_6_2)) (Or.inl rfl) dX0_startEmpty_23 rfl ?_
  refine j_nmX (fun X6 eX6 => ?_)
  replace h := h X6 eX6
  exact hR _ _ _ dX0_startEmpty_26 h
theorem c_Case_startEmpty {g : Gx} (hg : Dg g) {X M : ST} {post : ST → Prop} (h : wp_Case_startEmpty X post) (l : Launch) : Met l yX0_startEmpty wq_X0_startEmpty rm_Case_startEmpty (va_Pc [.ref (g.2.1 6)] (PU g X M)) (va_Qv post (fun Y t => va_P g.1 vwCl (ww g Y M) t.heap) (wA g)) 0 0 (wA g) :=
  met_xv hg (by decide) rfl [.ref (g.2.1 6)] rfl (Nat.le_of_ble_eq_true rfl) (fun κ hκ hR => lb_Case_startEmpty hκ hR h) l
theorem wm_32_17 : Cond.methodLink RX9 354 yX0_startEmpty ∈ wAll := inr_32 (List.mem_of_getElem? (i := 17) rfl)
theorem wm_32_18 : Cond.instanceMethod yX0_startEmpty ∈ wAll := inr_32 (List.mem_of_getElem? (i := 18) rfl)
theorem wm_32_19 : Cond.selects RX0 yX0_startEmpty yX0_startEmpty ∈ wAll := inr_32 (List.mem_of_getElem? (i := 19) rfl)
theorem wm_2_11 : Cond.initialized RX0 ∈ wAll := inr_2 (List.mem_of_getElem? (i := 11) rfl)
theorem wm_32_20 : Cond.code yX0_startEmpty cX0_startEmpty 1 none ∈ wAll := inr_32 (List.mem_of_getElem? (i := 20) rfl)
theorem hqV_X0_startEmpty : yX0_startEmpty.cls = RX0 ∧ yX0_startEmpty.cls ≠ "java/lang/invoke/MethodHandle" ∧ yX0_startEmpty.cls ≠ "java/lang/invoke/VarHandle" ∧ (parseMethodDescriptor yX0_startEmpty.desc).map (fun d => d.parameters.length) = some 0 := by decide +kernel
theorem wm_2_16 : Cond.fieldLink RX9 60 "LampRound" "tree" "LLampRound$Tree;" ∈ wAll := inr_2 (List.mem_of_getElem? (i := 16) rfl)
theorem wm_6_10 : Cond.fieldLink RX8 22 "LampRound$Tree" "pairs" "I" ∈ wAll := inr_6 (List.mem_of_getElem? (i := 10) rfl)
theorem wm_6_14 : Cond.fieldLink RX8 36 "LampRound$Tree" "lamps" "LLampRound$Lamps;" ∈ wAll := inr_6 (List.mem_of_getElem? (i := 14) rfl)
theorem wm_33_2 : Cond.methodLink RX8 49 yX2_isLive ∈ wAll := inr_33 (List.mem_of_getElem? (i := 2) rfl)
theorem wm_6_7 : Cond.fieldLink RX8 9 "LampRound$Tree" "ranked" "[J" ∈ wAll := inr_6 (List.mem_of_getElem? (i := 7) rfl)
theorem wm_33_7 : Cond.constantLong RX8 70 (1099511627776) ∈ wAll := inr_33 (List.mem_of_getElem? (i := 7) rfl)
theorem wm_33_8 : Cond.constant RX8 76 (1000000) ∈ wAll := inr_33 (List.mem_of_getElem? (i := 8) rfl)
theorem wm_33_9 : Cond.constantLong RX8 80 (256) ∈ wAll := inr_33 (List.mem_of_getElem? (i := 9) rfl)
abbrev rm_LR_pairOf : Room := { frames := 0, cells := 0, slots := 0, locals := 0 }
def wp_LR_pairOf (X : ST) (p0 : Int32) (p1 : Int32) (post : Int32 → ST → Prop) : Prop :=
  post ((16 * p0) + p1) X
set_option maxHeartbeats 4000000 in
set_option maxRecDepth 100000 in
theorem lb_LR_pairOf {κ : Cx} {g : Gx} {M : ST} (hκ : CF κ g RX9 cX9_pairOf wq_X9_pairOf 2 rm_LR_pairOf) {post : Int32 → ST → Prop} (hR : RtxI κ g 2 cX9_pairOf M post) {X : ST} {p0 : Int32} {p1 : Int32} (h : wp_LR_pairOf X p0 p1 post) : Jw κ g 2 X M [(0, .int p0), (1, .int p1)] 0 [] := by
  unfold wp_LR_pairOf at h
  refine j_bipush (pc' := 2) (v := 16) hκ (by decide) dX9_pairOf_0 rfl ?_
  refine j_iload_n (pc' := 3) hκ 0 rfl rfl dX9_pairOf_2 rfl ?_
  refine j_imul (pc' := 4) hκ dX9_pairOf_3 rfl ?_
  refine j_iload_n (pc' := 5) hκ 1 rfl rfl dX9_pairOf_4 rfl ?_
  refine j_iadd (pc' := 6) hκ dX9_pairOf_5 rfl ?_
  exact hR _ _ _ _ dX9_pairOf_6 h
theorem c_LR_pairOf {g : Gx} (hg : Dg g) {X M : ST} {p0 : Int32} {p1 : Int32} {post : Int32 → ST → Prop} (h : wp_LR_pairOf X p0 p1 post) (l : Launch) : Met l yX9_pairOf wq_X9_pairOf rm_LR_pairOf (va_Pc [.int p0, .int p1] (PU g X M)) (va_Qi post (fun Y t => va_P g.1 vwCl (ww g Y M) t.heap) (wA g)) 0 0 (wA g) :=
  met_xi hg (by decide) rfl [.int p0, .int p1] rfl (Nat.le_of_ble_eq_true rfl) (fun κ hκ hR => lb_LR_pairOf hκ hR h) l
theorem wm_33_11 : Cond.code yX9_pairOf cX9_pairOf 2 (some .int) ∈ wAll := inr_33 (List.mem_of_getElem? (i := 11) rfl)
theorem wm_33_10 : Cond.static yX9_pairOf ∈ wAll := inr_33 (List.mem_of_getElem? (i := 10) rfl)
theorem hqS_X9_pairOf : yX9_pairOf.cls ≠ "java/lang/invoke/MethodHandle" ∧ yX9_pairOf.cls ≠ "java/lang/invoke/VarHandle" ∧ (parseMethodDescriptor yX9_pairOf.desc).map (fun d => d.parameters.length) = some 2 := by decide +kernel
abbrev rm_Tree_keyOf : Room := { frames := 1, cells := 0, slots := 0, locals := 21 }
def wp_Tree_keyOf (X : ST) (p1 : Int32) (p2 : Int32) (post : Int64 → ST → Prop) : Prop :=
  vp_in p1 12 ∧ (vp_in p2 12 ∧ (((x_gaps X (p1.toNatClampNeg) p2.toNatClampNeg) = 1000000 → (wp_LR_pairOf X p1 p2 (fun r3 X2 => post ((1099511627776 * 256) + (r3.toInt64)) X2))) ∧ (¬ (x_gaps X (p1.toNatClampNeg) p2.toNatClampNeg) = 1000000 → (vp_in p1 12 ∧ (vp_in p2 12 ∧ (vp_in p1 12 ∧ (vp_in p2 12 ∧ (∀ v5 : Int64, v5 = (((x_gaps X (p1.toNatClampNeg) p2.toNatClampNeg).toInt64) + ((x_Lamps_prices X p1.toNatClampNeg).toInt64)) + ((x_Lamps_prices X p2.toNatClampNeg).toInt64) → wp_LR_pairOf X p1 p2 (fun r7 X6 => post ((v5 * 256) + (r7.toInt64)) X6)))))))))
set_option maxHeartbeats 4000000 in
set_option maxRecDepth 100000 in
theorem lb_Tree_keyOf {κ : Cx} {g : Gx} {M : ST} (hκ : CF κ g RX8 cX8_keyOf wq_X8_keyOf 5 rm_Tree_keyOf) {post : Int64 → ST → Prop} (hR : RtxL κ g 5 cX8_keyOf M post) {X : ST} {p1 : Int32} {p2 : Int32} (h : wp_Tree_keyOf X p1 p2 post) : Jw κ g 5 X M [(0, .ref (g.2.1 7)), (1, .int p1), (2, .int p2)] 0 [] := by
  unfold wp_Tree_keyOf at h
  refine j_ldc2_w (pc' := 3) hκ (mc wm_33_7) dX8_keyOf_0 rfl ?_
  refine j_lstore_n (pc' := 4) (lv' := [(3, .long 1099511627776), (0, .ref (g.2.1 7)), (1, .int p1), (2, .int p2)]) hκ (Nat.le_of_ble_eq_true rfl) rfl rfl dX8_keyOf_3 rfl ?_
  refine j_aload_n (pc' := 5) hκ 1 rfl rfl dX8_keyOf_4 rfl ?_
  refine jg_7_0 (pc' := 8) hκ (mi inlX8) (fl_in hκ (mc wm_6_14)) dX8_keyOf_5 rfl ?_
  refine jg_3_7 (pc' := 11) hκ (mi inlX2) (fl_ne hκ 45 rfl) dX8_keyOf_8 rfl ?_
  refine j_iload_n (pc' := 12) hκ 2 rfl rfl dX8_keyOf_11 rfl ?_
  refine j_aald (pc' := 13) (q := 26) (t := 3) hκ (wg_26 g _ _) rfl h.1 dX8_keyOf_12 rfl ?_
  have hr1 : p1.toNatClampNeg < 12 := Nat.not_le.mp fun q => h.1 (Or.inr q)
  replace h := h.2
  refine j_iload_n (pc' := 14) hκ 3 rfl rfl dX8_keyOf_13 rfl ?_
  refine jx_iald (pc' := 15) hκ (ah_gaps g hr1) h.1 dX8_keyOf_14 rfl ?_
  replace h := h.2
  refine j_ldc (pc' := 17) hκ (mc wm_33_8) dX8_keyOf_15 rfl ?_
  refine j_icmp_eq (tgt := 55) (pc' := 20) hκ dX8_keyOf_17 (by decide) rfl (fun c => ?_) (fun c => ?_)
  · replace h := h.1 c
    refine j_lload_n (pc' := 56) hκ 0 rfl rfl dX8_keyOf_55 rfl ?_
    refine j_ldc2_w (pc' := 59) hκ (mc wm_33_9) dX8_keyOf_56 rfl ?_
    refine j_lmul (pc' := 60) hκ dX8_keyOf_59 rfl ?_
    refine j_iload_n (pc' := 61) hκ 2 rfl rfl dX8_keyOf_60 rfl ?_
    refine j_iload_n (pc' := 62) hκ 3 rfl rfl dX8_keyOf_61 rfl ?_
    refine jx_callNi (pc' := 65) hκ (c_LR_pairOf (dg hκ) h) rfl rfl rfl (gN wm_33_11) 15 rfl (mc wm_1_2) (mc wm_33_10) hqS_X9_pairOf ⟨Nat.le_of_ble_eq_true rfl, Nat.le_of_ble_eq_true rfl⟩ rfl rfl (Nat.le_of_ble_eq_true rfl) dX8_keyOf_62 rfl (fun r3 X2 h => ?_)
    refine j_i2l (pc' := 66) hκ dX8_keyOf_65 rfl ?_
    refine j_ladd (pc' := 67) hκ dX8_keyOf_66 rfl ?_
    exact hR _ _ _ _ dX8_keyOf_67 h
  · replace h := h.2 c
    refine j_aload_n (pc' := 21) hκ 1 rfl rfl dX8_keyOf_20 rfl ?_
    refine jg_7_0 (pc' := 24) hκ (mi inlX8) (fl_in hκ (mc wm_6_14)) dX8_keyOf_21 rfl ?_
    refine jg_3_7 (pc' := 27) hκ (mi inlX2) (fl_ne hκ 45 rfl) dX8_keyOf_24 rfl ?_
    refine j_iload_n (pc' := 28) hκ 2 rfl rfl dX8_keyOf_27 rfl ?_
    refine j_aald (pc' := 29) (q := 26) (t := 3) hκ (wg_26 g _ _) rfl h.1 dX8_keyOf_28 rfl ?_
    have hr4 : p1.toNatClampNeg < 12 := Nat.not_le.mp fun q => h.1 (Or.inr q)
    replace h := h.2
    refine j_iload_n (pc' := 30) hκ 3 rfl rfl dX8_keyOf_29 rfl ?_
    refine jx_iald (pc' := 31) hκ (ah_gaps g hr4) h.1 dX8_keyOf_30 rfl ?_
    replace h := h.2
    refine j_i2l (pc' := 32) hκ dX8_keyOf_31 rfl ?_
    refine j_aload_n (pc' := 33) hκ 1 rfl rfl dX8_keyOf_32 rfl ?_
    refine jg_7_0 (pc' := 36) hκ (mi inlX8) (fl_in hκ (mc wm_6_14)) dX8_keyOf_33 rfl ?_
    refine jg_3_4 (pc' := 39) hκ (mi inlX2) (fl_ne hκ 46 rfl) dX8_keyOf_36 rfl ?_
    refine j_iload_n (pc' := 40) hκ 2 rfl rfl dX8_keyOf_39 rfl ?_
    refine jx_iald (pc' := 41) hκ (ah_23 g) h.1 dX8_keyOf_40 rfl ?_
    replace h := h.2
    refine j_i2l (pc' := 42) hκ dX8_keyOf_41 rfl ?_
    refine j_ladd (pc' := 43) hκ dX8_keyOf_42 rfl ?_
    refine j_aload_n (pc' := 44) hκ 1 rfl rfl dX8_keyOf_43 rfl ?_
    refine jg_7_0 (pc' := 47) hκ (mi inlX8) (fl_in hκ (mc wm_6_14)) dX8_keyOf_44 rfl ?_
    refine jg_3_4 (pc' := 50) hκ (mi inlX2) (fl_ne hκ 46 rfl) dX8_keyOf_47 rfl ?_
    refine j_iload_n (pc' := 51) hκ 3 rfl rfl dX8_keyOf_50 rfl ?_
    refine jx_iald (pc' := 52) hκ (ah_23 g) h.1 dX8_keyOf_51 rfl ?_
    replace h := h.2
    refine j_i2l (pc' := 53) hκ dX8_keyOf_52 rfl ?_
    refine j_ladd (pc' := 54) hκ dX8_keyOf_53 rfl ?_
    refine j_topl (fun v5 ev5 => ?_)
    replace h := h v5 ev5
    refine j_lstore_n (pc' := 55) (lv' := [(3, .long v5), (0, .ref (g.2.1 7)), (1, .int p1), (2, .int p2)]) hκ (Nat.le_of_ble_eq_true rfl) rfl rfl dX8_keyOf_54 rfl ?_
    refine j_lload_n (pc' := 56) hκ 0 rfl rfl dX8_keyOf_55 rfl ?_
    refine j_ldc2_w (pc' := 59) hκ (mc wm_33_9) dX8_keyOf_56 rfl ?_
    refine j_lmul (pc' := 60) hκ dX8_keyOf_59 rfl ?_
    refine j_iload_n (pc' := 61) hκ 2 rfl rfl dX8_keyOf_60 rfl ?_
    refine j_iload_n (pc' := 62) hκ 3 rfl rfl dX8_keyOf_61 rfl ?_
    refine jx_callNi (pc' := 65) hκ (c_LR_pairOf (dg hκ) h) rfl rfl rfl (gN wm_33_11) 15 rfl (mc wm_1_2) (mc wm_33_10) hqS_X9_pairOf ⟨Nat.le_of_ble_eq_true rfl, Nat.le_of_ble_eq_true rfl⟩ rfl rfl (Nat.le_of_ble_eq_true rfl) dX8_keyOf_62 rfl (fun r7 X6 h => ?_)
    refine j_i2l (pc' := 66) hκ dX8_keyOf_65 rfl ?_
    refine j_ladd (pc' := 67) hκ dX8_keyOf_66 rfl ?_
    exact hR _ _ _ _ dX8_keyOf_67 h
theorem c_Tree_keyOf {g : Gx} (hg : Dg g) {X M : ST} {p1 : Int32} {p2 : Int32} {post : Int64 → ST → Prop} (h : wp_Tree_keyOf X p1 p2 post) (l : Launch) : Met l yX8_keyOf wq_X8_keyOf rm_Tree_keyOf (va_Pc [.ref (g.2.1 7), .int p1, .int p2] (PU g X M)) (va_Ql post (fun Y t => va_P g.1 vwCl (ww g Y M) t.heap) (wA g)) 0 0 (wA g) :=
  met_xl hg (by decide) rfl [.ref (g.2.1 7), .int p1, .int p2] rfl (Nat.le_of_ble_eq_true rfl) (fun κ hκ hR => lb_Tree_keyOf hκ hR h) l
theorem wm_33_3 : Cond.methodLink RX8 53 yX8_keyOf ∈ wAll := inr_33 (List.mem_of_getElem? (i := 3) rfl)
theorem wm_33_4 : Cond.instanceMethod yX8_keyOf ∈ wAll := inr_33 (List.mem_of_getElem? (i := 4) rfl)
theorem wm_33_5 : Cond.selects RX8 yX8_keyOf yX8_keyOf ∈ wAll := inr_33 (List.mem_of_getElem? (i := 5) rfl)
theorem wm_2_15 : Cond.initialized RX8 ∈ wAll := inr_2 (List.mem_of_getElem? (i := 15) rfl)
theorem wm_33_6 : Cond.code yX8_keyOf cX8_keyOf 5 (some .long) ∈ wAll := inr_33 (List.mem_of_getElem? (i := 6) rfl)
theorem hqV_X8_keyOf : yX8_keyOf.cls = RX8 ∧ yX8_keyOf.cls ≠ "java/lang/invoke/MethodHandle" ∧ yX8_keyOf.cls ≠ "java/lang/invoke/VarHandle" ∧ (parseMethodDescriptor yX8_keyOf.desc).map (fun d => d.parameters.length) = some 2 := by decide +kernel
abbrev rm_Tree_sort : Room := { frames := 0, cells := 0, slots := 0, locals := 0 }
def wp_Tree_sort_20_s (K61 : ST → Int32 → Int64 → Int32 → Prop) (post : ST → Prop) (rec : ST → Int32 → Int64 → Int32 → Prop) (X : ST) (l1 : Int32) (l2 : Int64) (l4 : Int32) : Prop :=
  (l4 ≤ 0 → (K61 X l1 l2 l4)) ∧ (¬ l4 ≤ 0 → (vp_in (l4 - 1) 66 ∧ (((x_Tree_ranked X (l4 - 1).toNatClampNeg) ≤ l2 → (K61 X l1 l2 l4)) ∧ (¬ (x_Tree_ranked X (l4 - 1).toNatClampNeg) ≤ l2 → (vp_in (l4 - 1) 66 ∧ (vp_in l4 66 ∧ (∀ X2 : ST, X2 = xs_Tree_ranked X (vp_updL (x_Tree_ranked X) l4.toNatClampNeg (x_Tree_ranked X (l4 - 1).toNatClampNeg)) → rec X2 l1 l2 (l4 + (-1)))))))))
def wp_Tree_sort_20 (K61 : ST → Int32 → Int64 → Int32 → Prop) (post : ST → Prop) : Nat → ST → Int32 → Int64 → Int32 → Prop
  | 0 => fun _ _ _ _ => False
  | n + 1 => wp_Tree_sort_20_s K61 post (wp_Tree_sort_20 K61 post n)
set_option maxHeartbeats 4000000 in
set_option maxRecDepth 100000 in
theorem lb_Tree_sort_20 {κ : Cx} {g : Gx} {M : ST} (hκ : CF κ g RX8 cX8_sort wq_X8_sort 5 rm_Tree_sort) {post : ST → Prop} (hR : RtxV κ g 5 cX8_sort M post) {K61 : ST → Int32 → Int64 → Int32 → Prop} (hK61 : ∀ (X : ST) (l1 : Int32) (l2 : Int64) (l4 : Int32), K61 X l1 l2 l4 → Jw κ g 5 X M [(0, .ref (g.2.1 7)), (1, .int l1), (2, .long l2), (4, .int l4)] 61 []) : ∀ (n : Nat) (X : ST) (l1 : Int32) (l2 : Int64) (l4 : Int32), wp_Tree_sort_20 K61 post n X l1 l2 l4 → Jw κ g 5 X M [(0, .ref (g.2.1 7)), (1, .int l1), (2, .long l2), (4, .int l4)] 20 [] := by
  intro n
  induction n with
  | zero =>
    intro X l1 l2 l4  h
    exact h.elim
  | succ n ih =>
    intro X l1 l2 l4  h
    have h : wp_Tree_sort_20_s K61 post (wp_Tree_sort_20 K61 post n) X l1 l2 l4 := h
    unfold wp_Tree_sort_20_s at h
    refine j_iload (pc' := 22) hκ 3 rfl dX8_sort_20 rfl ?_
    refine j_if_le (tgt := 61) (pc' := 25) hκ dX8_sort_22 (by decide) rfl (fun c => ?_) (fun c => ?_)
    · replace h := h.1 c
      exact hK61 _ _ _ _  h
    · replace h := h.2 c
      refine j_aload_n (pc' := 26) hκ 0 rfl rfl dX8_sort_25 rfl ?_
      refine jg_7_2 (pc' := 29) hκ (mi inlX8) (fl_in hκ (mc wm_6_7)) dX8_sort_26 rfl ?_
      refine j_iload (pc' := 31) hκ 3 rfl dX8_sort_29 rfl ?_
      refine j_iconst (pc' := 32) (v := 1) hκ (by decide) dX8_sort_31 rfl ?_
      refine j_isub (pc' := 33) hκ dX8_sort_32 rfl ?_
      refine jx_lald (pc' := 34) hκ (ah_38 g) h.1 dX8_sort_33 rfl ?_
      replace h := h.2
      refine j_lload_n (pc' := 35) hκ 2 rfl rfl dX8_sort_34 rfl ?_
      refine j_lc_le (tgt := 61) (pc1 := 36) (pc' := 39) hκ dX8_sort_35 rfl dX8_sort_36 (by decide) rfl (fun c => ?_) (fun c => ?_)
      · replace h := h.1 c
        exact hK61 _ _ _ _  h
      · replace h := h.2 c
        refine j_aload_n (pc' := 40) hκ 0 rfl rfl dX8_sort_39 rfl ?_
        refine jg_7_2 (pc' := 43) hκ (mi inlX8) (fl_in hκ (mc wm_6_7)) dX8_sort_40 rfl ?_
        refine j_iload (pc' := 45) hκ 3 rfl dX8_sort_43 rfl ?_
        refine j_aload_n (pc' := 46) hκ 0 rfl rfl dX8_sort_45 rfl ?_
        refine jg_7_2 (pc' := 49) hκ (mi inlX8) (fl_in hκ (mc wm_6_7)) dX8_sort_46 rfl ?_
        refine j_iload (pc' := 51) hκ 3 rfl dX8_sort_49 rfl ?_
        refine j_iconst (pc' := 52) (v := 1) hκ (by decide) dX8_sort_51 rfl ?_
        refine j_isub (pc' := 53) hκ dX8_sort_52 rfl ?_
        refine jx_lald (pc' := 54) hκ (ah_38 g) h.1 dX8_sort_53 rfl ?_
        replace h := h.2
        refine jx_last (pc' := 55) hκ (ah_38 g) h.1 dX8_sort_54 rfl ?_
        replace h := h.2
        refine j_nmX (fun X2 eX2 => ?_)
        replace h := h X2 eX2
        refine j_iinc (pc' := 58) (v := l4 + (-1)) (lv' := [(4, .int (l4 + (-1))), (0, .ref (g.2.1 7)), (1, .int l1), (2, .long l2)]) hκ 3 rfl (congrArg (fun z => l4 + z) (by decide)) (Nat.le_of_ble_eq_true rfl) rfl dX8_sort_55 rfl ?_
        refine j_goto (pc' := 20) hκ (by decide) dX8_sort_58 ?_
        refine j_sub [1, 2, 3, 0] rfl ?_
        exact ih _ _ _ _  h
def wp_Tree_sort_2_s (K75 : ST → Prop) (post : ST → Prop) (rec : ST → Int32 → Prop) (X : ST) (l1 : Int32) : Prop :=
  ((x_Tree_pairs X) ≤ l1 → (K75 X)) ∧ (¬ (x_Tree_pairs X) ≤ l1 → (vp_in l1 66 ∧ (∀ v1 : Int64, v1 = x_Tree_ranked X l1.toNatClampNeg → ∃ n, wp_Tree_sort_20 (fun X3 v4 v5 v6 => vp_in v6 66 ∧ (∀ X7 : ST, X7 = xs_Tree_ranked X3 (vp_updL (x_Tree_ranked X3) v6.toNatClampNeg v5) → rec X7 (v4 + 1))) post n X l1 v1 l1)))
def wp_Tree_sort_2 (K75 : ST → Prop) (post : ST → Prop) : Nat → ST → Int32 → Prop
  | 0 => fun _ _ => False
  | n + 1 => wp_Tree_sort_2_s K75 post (wp_Tree_sort_2 K75 post n)
set_option maxHeartbeats 4000000 in
set_option maxRecDepth 100000 in
theorem lb_Tree_sort_2 {κ : Cx} {g : Gx} {M : ST} (hκ : CF κ g RX8 cX8_sort wq_X8_sort 5 rm_Tree_sort) {post : ST → Prop} (hR : RtxV κ g 5 cX8_sort M post) {K75 : ST → Prop} (hK75 : ∀ (X : ST), K75 X → Jw κ g 5 X M [] 75 []) : ∀ (n : Nat) (X : ST) (l1 : Int32), wp_Tree_sort_2 K75 post n X l1 → Jw κ g 5 X M [(0, .ref (g.2.1 7)), (1, .int l1)] 2 [] := by
  intro n
  induction n with
  | zero =>
    intro X l1  h
    exact h.elim
  | succ n ih =>
    intro X l1  h
    have h : wp_Tree_sort_2_s K75 post (wp_Tree_sort_2 K75 post n) X l1 := h
    unfold wp_Tree_sort_2_s at h
    refine j_iload_n (pc' := 3) hκ 1 rfl rfl dX8_sort_2 rfl ?_
    refine j_aload_n (pc' := 4) hκ 0 rfl rfl dX8_sort_3 rfl ?_
    refine jg_7_5 (pc' := 7) hκ (mi inlX8) (fl_in hκ (mc wm_6_10)) dX8_sort_4 rfl ?_
    refine j_icmp_ge (tgt := 75) (pc' := 10) hκ dX8_sort_7 (by decide) rfl (fun c => ?_) (fun c => ?_)
    · replace h := h.1 c
      refine j_sub [] rfl ?_
      exact hK75 _  h
    · replace h := h.2 c
      refine j_aload_n (pc' := 11) hκ 0 rfl rfl dX8_sort_10 rfl ?_
      refine jg_7_2 (pc' := 14) hκ (mi inlX8) (fl_in hκ (mc wm_6_7)) dX8_sort_11 rfl ?_
      refine j_iload_n (pc' := 15) hκ 1 rfl rfl dX8_sort_14 rfl ?_
      refine jx_lald (pc' := 16) hκ (ah_38 g) h.1 dX8_sort_15 rfl ?_
      replace h := h.2
      refine j_topl (fun v1 ev1 => ?_)
      replace h := h v1 ev1
      refine j_lstore_n (pc' := 17) (lv' := [(2, .long v1), (0, .ref (g.2.1 7)), (1, .int l1)]) hκ (Nat.le_of_ble_eq_true rfl) rfl rfl dX8_sort_16 rfl ?_
      refine j_iload_n (pc' := 18) hκ 2 rfl rfl dX8_sort_17 rfl ?_
      refine j_istore (pc' := 20) (lv' := [(4, .int l1), (2, .long v1), (0, .ref (g.2.1 7)), (1, .int l1)]) hκ (Nat.le_of_ble_eq_true rfl) rfl dX8_sort_18 rfl ?_
      obtain ⟨n, h⟩ := h
      refine j_sub [2, 3, 1, 0] rfl ?_
      refine lb_Tree_sort_20 hκ hR ?_ n _ _ _ _  h
      intro X3 v4 v5 v6  h
      refine j_aload_n (pc' := 62) hκ 0 rfl rfl dX8_sort_61 rfl ?_
      refine jg_7_2 (pc' := 65) hκ (mi inlX8) (fl_in hκ (mc wm_6_7)) dX8_sort_62 rfl ?_
      refine j_iload (pc' := 67) hκ 3 rfl dX8_sort_65 rfl ?_
      refine j_lload_n (pc' := 68) hκ 2 rfl rfl dX8_sort_67 rfl ?_
      refine jx_last (pc' := 69) hκ (ah_38 g) h.1 dX8_sort_68 rfl ?_
      replace h := h.2
      refine j_nmX (fun X7 eX7 => ?_)
      replace h := h X7 eX7
      refine j_iinc (pc' := 72) (v := v4 + 1) (lv' := [(1, .int (v4 + 1)), (0, .ref (g.2.1 7)), (2, .long v5), (4, .int v6)]) hκ 1 rfl rfl (Nat.le_of_ble_eq_true rfl) rfl dX8_sort_69 rfl ?_
      refine j_goto (pc' := 2) hκ (by decide) dX8_sort_72 ?_
      refine j_sub [1, 0] rfl ?_
      exact ih _ _  h
def wp_Tree_sort (X : ST) (post : ST → Prop) : Prop :=
  ∃ n, wp_Tree_sort_2 (fun X8 => post X8) post n X 1
set_option maxHeartbeats 4000000 in
set_option maxRecDepth 100000 in
theorem lb_Tree_sort {κ : Cx} {g : Gx} {M : ST} (hκ : CF κ g RX8 cX8_sort wq_X8_sort 5 rm_Tree_sort) {post : ST → Prop} (hR : RtxV κ g 5 cX8_sort M post) {X : ST} (h : wp_Tree_sort X post) : Jw κ g 5 X M [(0, .ref (g.2.1 7))] 0 [] := by
  unfold wp_Tree_sort at h
  refine j_iconst (pc' := 1) (v := 1) hκ (by decide) dX8_sort_0 rfl ?_
  refine j_istore_n (pc' := 2) (lv' := [(1, .int 1), (0, .ref (g.2.1 7))]) hκ (Nat.le_of_ble_eq_true rfl) rfl rfl dX8_sort_1 rfl ?_
  obtain ⟨n, h⟩ := h
  refine j_sub [1, 0] rfl ?_
  refine lb_Tree_sort_2 hκ hR ?_ n _ _  h
  intro X8  h
  exact hR _ _ _ dX8_sort_75 h
theorem c_Tree_sort {g : Gx} (hg : Dg g) {X M : ST} {post : ST → Prop} (h : wp_Tree_sort X post) (l : Launch) : Met l yX8_sort wq_X8_sort rm_Tree_sort (va_Pc [.ref (g.2.1 7)] (PU g X M)) (va_Qv post (fun Y t => va_P g.1 vwCl (ww g Y M) t.heap) (wA g)) 0 0 (wA g) :=
  met_xv hg (by decide) rfl [.ref (g.2.1 7)] rfl (Nat.le_of_ble_eq_true rfl) (fun κ hκ hR => lb_Tree_sort hκ hR h) l
theorem wm_33_12 : Cond.methodLink RX8 57 yX8_sort ∈ wAll := inr_33 (List.mem_of_getElem? (i := 12) rfl)
theorem wm_33_13 : Cond.instanceMethod yX8_sort ∈ wAll := inr_33 (List.mem_of_getElem? (i := 13) rfl)
theorem wm_33_14 : Cond.selects RX8 yX8_sort yX8_sort ∈ wAll := inr_33 (List.mem_of_getElem? (i := 14) rfl)
theorem wm_33_15 : Cond.code yX8_sort cX8_sort 5 none ∈ wAll := inr_33 (List.mem_of_getElem? (i := 15) rfl)
theorem hqV_X8_sort : yX8_sort.cls = RX8 ∧ yX8_sort.cls ≠ "java/lang/invoke/MethodHandle" ∧ yX8_sort.cls ≠ "java/lang/invoke/VarHandle" ∧ (parseMethodDescriptor yX8_sort.desc).map (fun d => d.parameters.length) = some 0 := by decide +kernel
abbrev rm_Tree_rank : Room := { frames := 2, cells := 0, slots := 0, locals := 45 }
def wp_Tree_rank_22_s (K86 : ST → Int32 → Prop) (post : ST → Prop) (rec : ST → Int32 → Int32 → Prop) (X : ST) (l1 : Int32) (l2 : Int32) : Prop :=
  ((x_Lamps_count X) ≤ l2 → (K86 X l1)) ∧ (¬ (x_Lamps_count X) ≤ l2 → (wp_Lamps_isLive X l1 (fun r4 X3 => (r4 = 0 → (rec X3 l1 (l2 + 1))) ∧ (¬ r4 = 0 → (wp_Lamps_isLive X3 l2 (fun r6 X5 => (r6 = 0 → (rec X5 l1 (l2 + 1))) ∧ (¬ r6 = 0 → (wp_Tree_keyOf X5 l1 l2 (fun r8 X7 => vp_in (x_Tree_pairs X5) 66 ∧ (∀ X9 : ST, X9 = xs_Tree_ranked X7 (vp_updL (x_Tree_ranked X7) (x_Tree_pairs X5).toNatClampNeg r8) → ∀ X10 : ST, X10 = xs_Tree_pairs X9 ((x_Tree_pairs X9) + 1) → rec X10 l1 (l2 + 1)))))))))))
def wp_Tree_rank_22 (K86 : ST → Int32 → Prop) (post : ST → Prop) : Nat → ST → Int32 → Int32 → Prop
  | 0 => fun _ _ _ => False
  | n + 1 => wp_Tree_rank_22_s K86 post (wp_Tree_rank_22 K86 post n)
set_option maxHeartbeats 4000000 in
set_option maxRecDepth 100000 in
theorem lb_Tree_rank_22 {κ : Cx} {g : Gx} {M : ST} (hκ : CF κ g RX8 cX8_rank wq_X8_rank 3 rm_Tree_rank) {post : ST → Prop} (hR : RtxV κ g 3 cX8_rank M post) {K86 : ST → Int32 → Prop} (hK86 : ∀ (X : ST) (l1 : Int32), K86 X l1 → Jw κ g 3 X M [(0, .ref (g.2.1 7)), (1, .int l1)] 86 []) : ∀ (n : Nat) (X : ST) (l1 : Int32) (l2 : Int32), wp_Tree_rank_22 K86 post n X l1 l2 → Jw κ g 3 X M [(0, .ref (g.2.1 7)), (1, .int l1), (2, .int l2)] 22 [] := by
  intro n
  induction n with
  | zero =>
    intro X l1 l2  h
    exact h.elim
  | succ n ih =>
    intro X l1 l2  h
    have h : wp_Tree_rank_22_s K86 post (wp_Tree_rank_22 K86 post n) X l1 l2 := h
    unfold wp_Tree_rank_22_s at h
    refine j_iload_n (pc' := 23) hκ 2 rfl rfl dX8_rank_22 rfl ?_
    refine j_aload_n (pc' := 24) hκ 0 rfl rfl dX8_rank_23 rfl ?_
    refine jg_7_0 (pc' := 27) hκ (mi inlX8) (fl_in hκ (mc wm_6_14)) dX8_rank_24 rfl ?_
    refine jg_3_9 (pc' := 30) hκ (mi inlX2) (fl_ne hκ 44 rfl) dX8_rank_27 rfl ?_
    refine j_icmp_ge (tgt := 86) (pc' := 33) hκ dX8_rank_30 (by decide) rfl (fun c => ?_) (fun c => ?_)
    · replace h := h.1 c
      refine j_sub [0, 1] rfl ?_
      exact hK86 _ _  h
    · replace h := h.2 c
      refine j_aload_n (pc' := 34) hκ 0 rfl rfl dX8_rank_33 rfl ?_
      refine jg_7_0 (pc' := 37) hκ (mi inlX8) (fl_in hκ (mc wm_6_14)) dX8_rank_34 rfl ?_
      refine j_iload_n (pc' := 38) hκ 1 rfl rfl dX8_rank_37 rfl ?_
      refine jx_callVi (pc' := 41) hκ (c_Lamps_isLive (dg hκ) h) rfl rfl rfl (gV wm_33_2 wm_17_23 wm_18_0 wm_1_23 wm_18_1) hqV_X2_isLive ⟨Nat.le_of_ble_eq_true rfl, Nat.le_of_ble_eq_true rfl⟩ (wg_3 g _ _) rfl rfl rfl (Nat.le_of_ble_eq_true rfl) dX8_rank_38 rfl (fun r4 X3 h => ?_)
      refine j_if_eq (tgt := 80) (pc' := 44) hκ dX8_rank_41 (by decide) rfl (fun c => ?_) (fun c => ?_)
      · replace h := h.1 c
        refine j_iinc (pc' := 83) (v := l2 + 1) (lv' := [(2, .int (l2 + 1)), (0, .ref (g.2.1 7)), (1, .int l1)]) hκ 2 rfl rfl (Nat.le_of_ble_eq_true rfl) rfl dX8_rank_80 rfl ?_
        refine j_goto (pc' := 22) hκ (by decide) dX8_rank_83 ?_
        refine j_sub [1, 2, 0] rfl ?_
        exact ih _ _ _  h
      · replace h := h.2 c
        refine j_aload_n (pc' := 45) hκ 0 rfl rfl dX8_rank_44 rfl ?_
        refine jg_7_0 (pc' := 48) hκ (mi inlX8) (fl_in hκ (mc wm_6_14)) dX8_rank_45 rfl ?_
        refine j_iload_n (pc' := 49) hκ 2 rfl rfl dX8_rank_48 rfl ?_
        refine jx_callVi (pc' := 52) hκ (c_Lamps_isLive (dg hκ) h) rfl rfl rfl (gV wm_33_2 wm_17_23 wm_18_0 wm_1_23 wm_18_1) hqV_X2_isLive ⟨Nat.le_of_ble_eq_true rfl, Nat.le_of_ble_eq_true rfl⟩ (wg_3 g _ _) rfl rfl rfl (Nat.le_of_ble_eq_true rfl) dX8_rank_49 rfl (fun r6 X5 h => ?_)
        refine j_if_eq (tgt := 80) (pc' := 55) hκ dX8_rank_52 (by decide) rfl (fun c => ?_) (fun c => ?_)
        · replace h := h.1 c
          refine j_iinc (pc' := 83) (v := l2 + 1) (lv' := [(2, .int (l2 + 1)), (0, .ref (g.2.1 7)), (1, .int l1)]) hκ 2 rfl rfl (Nat.le_of_ble_eq_true rfl) rfl dX8_rank_80 rfl ?_
          refine j_goto (pc' := 22) hκ (by decide) dX8_rank_83 ?_
          refine j_sub [1, 2, 0] rfl ?_
          exact ih _ _ _  h
        · replace h := h.2 c
          refine j_aload_n (pc' := 56) hκ 0 rfl rfl dX8_rank_55 rfl ?_
          refine jg_7_2 (pc' := 59) hκ (mi inlX8) (fl_in hκ (mc wm_6_7)) dX8_rank_56 rfl ?_
          refine j_aload_n (pc' := 60) hκ 0 rfl rfl dX8_rank_59 rfl ?_
          refine jg_7_5 (pc' := 63) hκ (mi inlX8) (fl_in hκ (mc wm_6_10)) dX8_rank_60 rfl ?_
          refine j_aload_n (pc' := 64) hκ 0 rfl rfl dX8_rank_63 rfl ?_
          refine j_iload_n (pc' := 65) hκ 1 rfl rfl dX8_rank_64 rfl ?_
          refine j_iload_n (pc' := 66) hκ 2 rfl rfl dX8_rank_65 rfl ?_
          refine jx_callVl (pc' := 69) hκ (c_Tree_keyOf (dg hκ) h) rfl rfl rfl (gV wm_33_3 wm_33_4 wm_33_5 wm_2_15 wm_33_6) hqV_X8_keyOf ⟨Nat.le_of_ble_eq_true rfl, Nat.le_of_ble_eq_true rfl⟩ (wg_7 g _ _) rfl rfl rfl (Nat.le_of_ble_eq_true rfl) dX8_rank_66 rfl (fun r8 X7 h => ?_)
          refine jx_last (pc' := 70) hκ (ah_38 g) h.1 dX8_rank_69 rfl ?_
          replace h := h.2
          refine j_nmX (fun X9 eX9 => ?_)
          replace h := h X9 eX9
          refine j_aload_n (pc' := 71) hκ 0 rfl rfl dX8_rank_70 rfl ?_
          refine j_dup (pc' := 72) hκ rfl dX8_rank_71 rfl ?_
          refine jg_7_5 (pc' := 75) hκ (mi inlX8) (fl_in hκ (mc wm_6_10)) dX8_rank_72 rfl ?_
          refine j_iconst (pc' := 76) (v := 1) hκ (by decide) dX8_rank_75 rfl ?_
          refine j_iadd (pc' := 77) hκ dX8_rank_76 rfl ?_
          refine jp_7_5 (pc' := 80) hκ (mi inlX8) (fl_in hκ (mc wm_6_10)) dX8_rank_77 rfl ?_
          refine j_nmX (fun X10 eX10 => ?_)
          replace h := h X10 eX10
          refine j_iinc (pc' := 83) (v := l2 + 1) (lv' := [(2, .int (l2 + 1)), (0, .ref (g.2.1 7)), (1, .int l1)]) hκ 2 rfl rfl (Nat.le_of_ble_eq_true rfl) rfl dX8_rank_80 rfl ?_
          refine j_goto (pc' := 22) hκ (by decide) dX8_rank_83 ?_
          refine j_sub [1, 2, 0] rfl ?_
          exact ih _ _ _  h
def wp_Tree_rank_7_s (K92 : ST → Prop) (post : ST → Prop) (rec : ST → Int32 → Prop) (X : ST) (l1 : Int32) : Prop :=
  ((x_Lamps_count X) ≤ l1 → (K92 X)) ∧ (¬ (x_Lamps_count X) ≤ l1 → (∀ v2 : Int32, v2 = l1 + 1 → ∃ n, wp_Tree_rank_22 (fun X11 v12 => rec X11 (v12 + 1)) post n X l1 v2))
def wp_Tree_rank_7 (K92 : ST → Prop) (post : ST → Prop) : Nat → ST → Int32 → Prop
  | 0 => fun _ _ => False
  | n + 1 => wp_Tree_rank_7_s K92 post (wp_Tree_rank_7 K92 post n)
set_option maxHeartbeats 4000000 in
set_option maxRecDepth 100000 in
theorem lb_Tree_rank_7 {κ : Cx} {g : Gx} {M : ST} (hκ : CF κ g RX8 cX8_rank wq_X8_rank 3 rm_Tree_rank) {post : ST → Prop} (hR : RtxV κ g 3 cX8_rank M post) {K92 : ST → Prop} (hK92 : ∀ (X : ST), K92 X → Jw κ g 3 X M [(0, .ref (g.2.1 7))] 92 []) : ∀ (n : Nat) (X : ST) (l1 : Int32), wp_Tree_rank_7 K92 post n X l1 → Jw κ g 3 X M [(0, .ref (g.2.1 7)), (1, .int l1)] 7 [] := by
  intro n
  induction n with
  | zero =>
    intro X l1  h
    exact h.elim
  | succ n ih =>
    intro X l1  h
    have h : wp_Tree_rank_7_s K92 post (wp_Tree_rank_7 K92 post n) X l1 := h
    unfold wp_Tree_rank_7_s at h
    refine j_iload_n (pc' := 8) hκ 1 rfl rfl dX8_rank_7 rfl ?_
    refine j_aload_n (pc' := 9) hκ 0 rfl rfl dX8_rank_8 rfl ?_
    refine jg_7_0 (pc' := 12) hκ (mi inlX8) (fl_in hκ (mc wm_6_14)) dX8_rank_9 rfl ?_
    refine jg_3_9 (pc' := 15) hκ (mi inlX2) (fl_ne hκ 44 rfl) dX8_rank_12 rfl ?_
    refine j_icmp_ge (tgt := 92) (pc' := 18) hκ dX8_rank_15 (by decide) rfl (fun c => ?_) (fun c => ?_)
    · replace h := h.1 c
      refine j_sub [0] rfl ?_
      exact hK92 _  h
    · replace h := h.2 c
      refine j_iload_n (pc' := 19) hκ 1 rfl rfl dX8_rank_18 rfl ?_
      refine j_iconst (pc' := 20) (v := 1) hκ (by decide) dX8_rank_19 rfl ?_
      refine j_iadd (pc' := 21) hκ dX8_rank_20 rfl ?_
      refine j_topi (fun v2 ev2 => ?_)
      replace h := h v2 ev2
      refine j_istore_n (pc' := 22) (lv' := [(2, .int v2), (0, .ref (g.2.1 7)), (1, .int l1)]) hκ (Nat.le_of_ble_eq_true rfl) rfl rfl dX8_rank_21 rfl ?_
      obtain ⟨n, h⟩ := h
      refine j_sub [1, 2, 0] rfl ?_
      refine lb_Tree_rank_22 hκ hR ?_ n _ _ _  h
      intro X11 v12  h
      refine j_iinc (pc' := 89) (v := v12 + 1) (lv' := [(1, .int (v12 + 1)), (0, .ref (g.2.1 7))]) hκ 1 rfl rfl (Nat.le_of_ble_eq_true rfl) rfl dX8_rank_86 rfl ?_
      refine j_goto (pc' := 7) hκ (by decide) dX8_rank_89 ?_
      refine j_sub [1, 0] rfl ?_
      exact ih _ _  h
def wp_Tree_rank (X : ST) (post : ST → Prop) : Prop :=
  ∀ X1 : ST, X1 = xs_Tree_pairs X 0 → ∃ n, wp_Tree_rank_7 (fun X13 => wp_Tree_sort X13 (fun X14 => post X14)) post n X1 0
set_option maxHeartbeats 4000000 in
set_option maxRecDepth 100000 in
theorem lb_Tree_rank {κ : Cx} {g : Gx} {M : ST} (hκ : CF κ g RX8 cX8_rank wq_X8_rank 3 rm_Tree_rank) {post : ST → Prop} (hR : RtxV κ g 3 cX8_rank M post) {X : ST} (h : wp_Tree_rank X post) : Jw κ g 3 X M [(0, .ref (g.2.1 7))] 0 [] := by
  unfold wp_Tree_rank at h
  refine j_aload_n (pc' := 1) hκ 0 rfl rfl dX8_rank_0 rfl ?_
  refine j_iconst (pc' := 2) (v := 0) hκ (by decide) dX8_rank_1 rfl ?_
  refine jp_7_5 (pc' := 5) hκ (mi inlX8) (fl_in hκ (mc wm_6_10)) dX8_rank_2 rfl ?_
  refine j_nmX (fun X1 eX1 => ?_)
  replace h := h X1 eX1
  refine j_iconst (pc' := 6) (v := 0) hκ (by decide) dX8_rank_5 rfl ?_
  refine j_istore_n (pc' := 7) (lv' := [(1, .int 0), (0, .ref (g.2.1 7))]) hκ (Nat.le_of_ble_eq_true rfl) rfl rfl dX8_rank_6 rfl ?_
  obtain ⟨n, h⟩ := h
  refine j_sub [1, 0] rfl ?_
  refine lb_Tree_rank_7 hκ hR ?_ n _ _  h
  intro X13  h
  refine j_aload_n (pc' := 93) hκ 0 rfl rfl dX8_rank_92 rfl ?_
  refine jx_callVv (pc' := 96) hκ (c_Tree_sort (dg hκ) h) rfl rfl rfl (gV wm_33_12 wm_33_13 wm_33_14 wm_2_15 wm_33_15) hqV_X8_sort ⟨Nat.le_of_ble_eq_true rfl, Nat.le_of_ble_eq_true rfl⟩ (wg_7 g _ _) rfl rfl rfl (Nat.le_of_ble_eq_true rfl) dX8_rank_93 rfl (fun X14 h => ?_)
  exact hR _ _ _ dX8_rank_96 h
theorem c_Tree_rank {g : Gx} (hg : Dg g) {X M : ST} {post : ST → Prop} (h : wp_Tree_rank X post) (l : Launch) : Met l yX8_rank wq_X8_rank rm_Tree_rank (va_Pc [.ref (g.2.1 7)] (PU g X M)) (va_Qv post (fun Y t => va_P g.1 vwCl (ww g Y M) t.heap) (wA g)) 0 0 (wA g) :=
  met_xv hg (by decide) rfl [.ref (g.2.1 7)] rfl (Nat.le_of_ble_eq_true rfl) (fun κ hκ hR => lb_Tree_rank hκ hR h) l
theorem wm_32_22 : Cond.methodLink RX9 357 yX8_rank ∈ wAll := inr_32 (List.mem_of_getElem? (i := 22) rfl)
theorem wm_32_23 : Cond.instanceMethod yX8_rank ∈ wAll := inr_32 (List.mem_of_getElem? (i := 23) rfl)
theorem wm_33_0 : Cond.selects RX8 yX8_rank yX8_rank ∈ wAll := inr_33 (List.mem_of_getElem? (i := 0) rfl)
theorem wm_33_1 : Cond.code yX8_rank cX8_rank 3 none ∈ wAll := inr_33 (List.mem_of_getElem? (i := 1) rfl)
theorem hqV_X8_rank : yX8_rank.cls = RX8 ∧ yX8_rank.cls ≠ "java/lang/invoke/MethodHandle" ∧ yX8_rank.cls ≠ "java/lang/invoke/VarHandle" ∧ (parseMethodDescriptor yX8_rank.desc).map (fun d => d.parameters.length) = some 0 := by decide +kernel
abbrev rm_LR_beginEmptyCase : Room := { frames := 4, cells := 0, slots := 0, locals := 93 }
def wp_LR_beginEmptyCase (X : ST) (post : ST → Prop) : Prop :=
  wp_Lamps_survey X (fun X1 => wp_Case_startEmpty X1 (fun X3 => wp_Tree_rank X3 (fun X5 => post X5)))
set_option maxHeartbeats 4000000 in
set_option maxRecDepth 100000 in
theorem lb_LR_beginEmptyCase {κ : Cx} {g : Gx} {M : ST} (hκ : CF κ g RX9 cX9_beginEmptyCase wq_X9_beginEmptyCase 1 rm_LR_beginEmptyCase) {post : ST → Prop} (hR : RtxV κ g 1 cX9_beginEmptyCase M post) {X : ST} (h : wp_LR_beginEmptyCase X post) : Jw κ g 1 X M [(0, .ref (g.2.1 0))] 0 [] := by
  unfold wp_LR_beginEmptyCase at h
  refine j_aload_n (pc' := 1) hκ 0 rfl rfl dX9_beginEmptyCase_0 rfl ?_
  refine jg_0_2 (pc' := 4) hκ (mi inlX9) (fl_in hκ (mc wm_2_0)) dX9_beginEmptyCase_1 rfl ?_
  refine jx_callVv (pc' := 7) hκ (c_Lamps_survey (dg hκ) h) rfl rfl rfl (gV wm_18_17 wm_18_18 wm_18_19 wm_1_23 wm_18_20) hqV_X2_survey ⟨Nat.le_of_ble_eq_true rfl, Nat.le_of_ble_eq_true rfl⟩ (wg_3 g _ _) rfl rfl rfl (Nat.le_of_ble_eq_true rfl) dX9_beginEmptyCase_4 rfl (fun X1 h => ?_)
  refine j_aload_n (pc' := 8) hκ 0 rfl rfl dX9_beginEmptyCase_7 rfl ?_
  refine jg_0_5 (pc' := 11) hκ (mi inlX9) (fl_in hκ (mc wm_2_12)) dX9_beginEmptyCase_8 rfl ?_
  refine jx_callVv (pc' := 14) hκ (c_Case_startEmpty (dg hκ) h) rfl rfl rfl (gV wm_32_17 wm_32_18 wm_32_19 wm_2_11 wm_32_20) hqV_X0_startEmpty ⟨Nat.le_of_ble_eq_true rfl, Nat.le_of_ble_eq_true rfl⟩ (wg_6 g _ _) rfl rfl rfl (Nat.le_of_ble_eq_true rfl) dX9_beginEmptyCase_11 rfl (fun X3 h => ?_)
  refine j_aload_n (pc' := 15) hκ 0 rfl rfl dX9_beginEmptyCase_14 rfl ?_
  refine jg_0_6 (pc' := 18) hκ (mi inlX9) (fl_in hκ (mc wm_2_16)) dX9_beginEmptyCase_15 rfl ?_
  refine jx_callVv (pc' := 21) hκ (c_Tree_rank (dg hκ) h) rfl rfl rfl (gV wm_32_22 wm_32_23 wm_33_0 wm_2_15 wm_33_1) hqV_X8_rank ⟨Nat.le_of_ble_eq_true rfl, Nat.le_of_ble_eq_true rfl⟩ (wg_7 g _ _) rfl rfl rfl (Nat.le_of_ble_eq_true rfl) dX9_beginEmptyCase_18 rfl (fun X5 h => ?_)
  exact hR _ _ _ dX9_beginEmptyCase_21 h
theorem c_LR_beginEmptyCase {g : Gx} (hg : Dg g) {X M : ST} {post : ST → Prop} (h : wp_LR_beginEmptyCase X post) (l : Launch) : Met l yX9_beginEmptyCase wq_X9_beginEmptyCase rm_LR_beginEmptyCase (va_Pc [.ref (g.2.1 0)] (PU g X M)) (va_Qv post (fun Y t => va_P g.1 vwCl (ww g Y M) t.heap) (wA g)) 0 0 (wA g) :=
  met_xv hg (by decide) rfl [.ref (g.2.1 0)] rfl (Nat.le_of_ble_eq_true rfl) (fun κ hκ hR => lb_LR_beginEmptyCase hκ hR h) l
theorem wm_32_13 : Cond.methodLink RX9 313 yX9_beginEmptyCase ∈ wAll := inr_32 (List.mem_of_getElem? (i := 13) rfl)
theorem wm_32_14 : Cond.instanceMethod yX9_beginEmptyCase ∈ wAll := inr_32 (List.mem_of_getElem? (i := 14) rfl)
theorem wm_32_15 : Cond.selects RX9 yX9_beginEmptyCase yX9_beginEmptyCase ∈ wAll := inr_32 (List.mem_of_getElem? (i := 15) rfl)
theorem wm_32_16 : Cond.code yX9_beginEmptyCase cX9_beginEmptyCase 1 none ∈ wAll := inr_32 (List.mem_of_getElem? (i := 16) rfl)
theorem hqV_X9_beginEmptyCase : yX9_beginEmptyCase.cls = RX9 ∧ yX9_beginEmptyCase.cls ≠ "java/lang/invoke/MethodHandle" ∧ yX9_beginEmptyCase.cls ≠ "java/lang/invoke/VarHandle" ∧ (parseMethodDescriptor yX9_beginEmptyCase.desc).map (fun d => d.parameters.length) = some 0 := by decide +kernel
theorem wm_6_11 : Cond.fieldLink RX8 26 "LampRound$Tree" "takenCount" "I" ∈ wAll := inr_6 (List.mem_of_getElem? (i := 11) rfl)
theorem wm_6_12 : Cond.fieldLink RX8 29 "LampRound$Tree" "takenOfFirst" "I" ∈ wAll := inr_6 (List.mem_of_getElem? (i := 12) rfl)
theorem wm_6_13 : Cond.fieldLink RX8 32 "LampRound$Tree" "sum" "J" ∈ wAll := inr_6 (List.mem_of_getElem? (i := 13) rfl)
theorem wm_6_9 : Cond.fieldLink RX8 19 "LampRound$Tree" "hung" "[I" ∈ wAll := inr_6 (List.mem_of_getElem? (i := 9) rfl)
abbrev rm_Lamps_firstLive : Room := { frames := 1, cells := 0, slots := 0, locals := 21 }
def wp_Lamps_firstLive_2_s (K21 : ST → Int32 → Prop) (K29 : ST → Prop) (post : Int32 → ST → Prop) (rec : ST → Int32 → Prop) (X : ST) (l1 : Int32) : Prop :=
  ((x_Lamps_count X) ≤ l1 → (K29 X)) ∧ (¬ (x_Lamps_count X) ≤ l1 → (wp_LR_isIn X (x_Lamps_live X) l1 (fun r2 X1 => (r2 = 0 → (rec X1 (l1 + 1))) ∧ (¬ r2 = 0 → (K21 X1 l1)))))
def wp_Lamps_firstLive_2 (K21 : ST → Int32 → Prop) (K29 : ST → Prop) (post : Int32 → ST → Prop) : Nat → ST → Int32 → Prop
  | 0 => fun _ _ => False
  | n + 1 => wp_Lamps_firstLive_2_s K21 K29 post (wp_Lamps_firstLive_2 K21 K29 post n)
set_option maxHeartbeats 4000000 in
set_option maxRecDepth 100000 in
theorem lb_Lamps_firstLive_2 {κ : Cx} {g : Gx} {M : ST} (hκ : CF κ g RX2 cX2_firstLive wq_X2_firstLive 2 rm_Lamps_firstLive) {post : Int32 → ST → Prop} (hR : RtxI κ g 2 cX2_firstLive M post) {K21 : ST → Int32 → Prop} {K29 : ST → Prop} (hK21 : ∀ (X : ST) (l1 : Int32), K21 X l1 → Jw κ g 2 X M [(1, .int l1)] 21 []) (hK29 : ∀ (X : ST), K29 X → Jw κ g 2 X M [] 29 []) : ∀ (n : Nat) (X : ST) (l1 : Int32), wp_Lamps_firstLive_2 K21 K29 post n X l1 → Jw κ g 2 X M [(0, .ref (g.2.1 3)), (1, .int l1)] 2 [] := by
  intro n
  induction n with
  | zero =>
    intro X l1  h
    exact h.elim
  | succ n ih =>
    intro X l1  h
    have h : wp_Lamps_firstLive_2_s K21 K29 post (wp_Lamps_firstLive_2 K21 K29 post n) X l1 := h
    unfold wp_Lamps_firstLive_2_s at h
    refine j_iload_n (pc' := 3) hκ 1 rfl rfl dX2_firstLive_2 rfl ?_
    refine j_aload_n (pc' := 4) hκ 0 rfl rfl dX2_firstLive_3 rfl ?_
    refine jg_3_9 (pc' := 7) hκ (mi inlX2) (fl_in hκ (mc wm_4_17)) dX2_firstLive_4 rfl ?_
    refine j_icmp_ge (tgt := 29) (pc' := 10) hκ dX2_firstLive_7 (by decide) rfl (fun c => ?_) (fun c => ?_)
    · replace h := h.1 c
      refine j_sub [] rfl ?_
      exact hK29 _  h
    · replace h := h.2 c
      refine j_aload_n (pc' := 11) hκ 0 rfl rfl dX2_firstLive_10 rfl ?_
      refine jg_3_8 (pc' := 14) hκ (mi inlX2) (fl_in hκ (mc wm_4_16)) dX2_firstLive_11 rfl ?_
      refine j_iload_n (pc' := 15) hκ 1 rfl rfl dX2_firstLive_14 rfl ?_
      refine jx_callNi (pc' := 18) hκ (c_LR_isIn (dg hκ) h) rfl rfl rfl (gN wm_18_4) 10 rfl (mc wm_1_2) (mc wm_18_3) hqS_X9_isIn ⟨Nat.le_of_ble_eq_true rfl, Nat.le_of_ble_eq_true rfl⟩ rfl rfl (Nat.le_of_ble_eq_true rfl) dX2_firstLive_15 rfl (fun r2 X1 h => ?_)
      refine j_if_eq (tgt := 23) (pc' := 21) hκ dX2_firstLive_18 (by decide) rfl (fun c => ?_) (fun c => ?_)
      · replace h := h.1 c
        refine j_iinc (pc' := 26) (v := l1 + 1) (lv' := [(1, .int (l1 + 1)), (0, .ref (g.2.1 3))]) hκ 1 rfl rfl (Nat.le_of_ble_eq_true rfl) rfl dX2_firstLive_23 rfl ?_
        refine j_goto (pc' := 2) hκ (by decide) dX2_firstLive_26 ?_
        refine j_sub [1, 0] rfl ?_
        exact ih _ _  h
      · replace h := h.2 c
        refine j_sub [1] rfl ?_
        exact hK21 _ _  h
def wp_Lamps_firstLive (X : ST) (post : Int32 → ST → Prop) : Prop :=
  ∃ n, wp_Lamps_firstLive_2 (fun X3 v4 => post v4 X3) (fun X5 => post (-1) X5) post n X 0
set_option maxHeartbeats 4000000 in
set_option maxRecDepth 100000 in
theorem lb_Lamps_firstLive {κ : Cx} {g : Gx} {M : ST} (hκ : CF κ g RX2 cX2_firstLive wq_X2_firstLive 2 rm_Lamps_firstLive) {post : Int32 → ST → Prop} (hR : RtxI κ g 2 cX2_firstLive M post) {X : ST} (h : wp_Lamps_firstLive X post) : Jw κ g 2 X M [(0, .ref (g.2.1 3))] 0 [] := by
  unfold wp_Lamps_firstLive at h
  refine j_iconst (pc' := 1) (v := 0) hκ (by decide) dX2_firstLive_0 rfl ?_
  refine j_istore_n (pc' := 2) (lv' := [(1, .int 0), (0, .ref (g.2.1 3))]) hκ (Nat.le_of_ble_eq_true rfl) rfl rfl dX2_firstLive_1 rfl ?_
  obtain ⟨n, h⟩ := h
  refine j_sub [1, 0] rfl ?_
  refine lb_Lamps_firstLive_2 hκ hR ?_ ?_ n _ _  h
  · intro X3 v4  h
    refine j_iload_n (pc' := 22) hκ 0 rfl rfl dX2_firstLive_21 rfl ?_
    exact hR _ _ _ _ dX2_firstLive_22 h
  · intro X5  h
    refine j_iconst (pc' := 30) (v := (-1)) hκ (by decide) dX2_firstLive_29 rfl ?_
    exact hR _ _ _ _ dX2_firstLive_30 h
theorem c_Lamps_firstLive {g : Gx} (hg : Dg g) {X M : ST} {post : Int32 → ST → Prop} (h : wp_Lamps_firstLive X post) (l : Launch) : Met l yX2_firstLive wq_X2_firstLive rm_Lamps_firstLive (va_Pc [.ref (g.2.1 3)] (PU g X M)) (va_Qi post (fun Y t => va_P g.1 vwCl (ww g Y M) t.heap) (wA g)) 0 0 (wA g) :=
  met_xi hg (by decide) rfl [.ref (g.2.1 3)] rfl (Nat.le_of_ble_eq_true rfl) (fun κ hκ hR => lb_Lamps_firstLive hκ hR h) l
theorem wm_33_20 : Cond.methodLink RX8 94 yX2_firstLive ∈ wAll := inr_33 (List.mem_of_getElem? (i := 20) rfl)
theorem wm_33_21 : Cond.instanceMethod yX2_firstLive ∈ wAll := inr_33 (List.mem_of_getElem? (i := 21) rfl)
theorem wm_33_22 : Cond.selects RX2 yX2_firstLive yX2_firstLive ∈ wAll := inr_33 (List.mem_of_getElem? (i := 22) rfl)
theorem wm_33_23 : Cond.code yX2_firstLive cX2_firstLive 2 (some .int) ∈ wAll := inr_33 (List.mem_of_getElem? (i := 23) rfl)
theorem hqV_X2_firstLive : yX2_firstLive.cls = RX2 ∧ yX2_firstLive.cls ≠ "java/lang/invoke/MethodHandle" ∧ yX2_firstLive.cls ≠ "java/lang/invoke/VarHandle" ∧ (parseMethodDescriptor yX2_firstLive.desc).map (fun d => d.parameters.length) = some 0 := by decide +kernel
theorem wm_34_4 : Cond.methodLink RX8 105 yX2_liveCount ∈ wAll := inr_34 (List.mem_of_getElem? (i := 4) rfl)
theorem wm_34_9 : Cond.constantLong RX8 86 (255) ∈ wAll := inr_34 (List.mem_of_getElem? (i := 9) rfl)
abbrev rm_Tree_pairAt : Room := { frames := 0, cells := 0, slots := 0, locals := 0 }
def wp_Tree_pairAt (X : ST) (p1 : Int32) (post : Int32 → ST → Prop) : Prop :=
  vp_in p1 66 ∧ (post (((x_Tree_ranked X p1.toNatClampNeg) &&& 255).toInt32) X)
set_option maxHeartbeats 4000000 in
set_option maxRecDepth 100000 in
theorem lb_Tree_pairAt {κ : Cx} {g : Gx} {M : ST} (hκ : CF κ g RX8 cX8_pairAt wq_X8_pairAt 2 rm_Tree_pairAt) {post : Int32 → ST → Prop} (hR : RtxI κ g 2 cX8_pairAt M post) {X : ST} {p1 : Int32} (h : wp_Tree_pairAt X p1 post) : Jw κ g 2 X M [(0, .ref (g.2.1 7)), (1, .int p1)] 0 [] := by
  unfold wp_Tree_pairAt at h
  refine j_aload_n (pc' := 1) hκ 0 rfl rfl dX8_pairAt_0 rfl ?_
  refine jg_7_2 (pc' := 4) hκ (mi inlX8) (fl_in hκ (mc wm_6_7)) dX8_pairAt_1 rfl ?_
  refine j_iload_n (pc' := 5) hκ 1 rfl rfl dX8_pairAt_4 rfl ?_
  refine jx_lald (pc' := 6) hκ (ah_38 g) h.1 dX8_pairAt_5 rfl ?_
  replace h := h.2
  refine j_ldc2_w (pc' := 9) hκ (mc wm_34_9) dX8_pairAt_6 rfl ?_
  refine j_land (pc' := 10) hκ dX8_pairAt_9 rfl ?_
  refine j_l2i (pc' := 11) hκ dX8_pairAt_10 rfl ?_
  exact hR _ _ _ _ dX8_pairAt_11 h
theorem c_Tree_pairAt {g : Gx} (hg : Dg g) {X M : ST} {p1 : Int32} {post : Int32 → ST → Prop} (h : wp_Tree_pairAt X p1 post) (l : Launch) : Met l yX8_pairAt wq_X8_pairAt rm_Tree_pairAt (va_Pc [.ref (g.2.1 7), .int p1] (PU g X M)) (va_Qi post (fun Y t => va_P g.1 vwCl (ww g Y M) t.heap) (wA g)) 0 0 (wA g) :=
  met_xi hg (by decide) rfl [.ref (g.2.1 7), .int p1] rfl (Nat.le_of_ble_eq_true rfl) (fun κ hκ hR => lb_Tree_pairAt hκ hR h) l
theorem wm_34_5 : Cond.methodLink RX8 60 yX8_pairAt ∈ wAll := inr_34 (List.mem_of_getElem? (i := 5) rfl)
theorem wm_34_6 : Cond.instanceMethod yX8_pairAt ∈ wAll := inr_34 (List.mem_of_getElem? (i := 6) rfl)
theorem wm_34_7 : Cond.selects RX8 yX8_pairAt yX8_pairAt ∈ wAll := inr_34 (List.mem_of_getElem? (i := 7) rfl)
theorem wm_34_8 : Cond.code yX8_pairAt cX8_pairAt 2 (some .int) ∈ wAll := inr_34 (List.mem_of_getElem? (i := 8) rfl)
theorem hqV_X8_pairAt : yX8_pairAt.cls = RX8 ∧ yX8_pairAt.cls ≠ "java/lang/invoke/MethodHandle" ∧ yX8_pairAt.cls ≠ "java/lang/invoke/VarHandle" ∧ (parseMethodDescriptor yX8_pairAt.desc).map (fun d => d.parameters.length) = some 1 := by decide +kernel
abbrev rm_LR_lesserOf : Room := { frames := 0, cells := 0, slots := 0, locals := 0 }
def wp_LR_lesserOf (X : ST) (p0 : Int32) (post : Int32 → ST → Prop) : Prop :=
  post ((p0 >>> (4 &&& 31)) &&& 15) X
set_option maxHeartbeats 4000000 in
set_option maxRecDepth 100000 in
theorem lb_LR_lesserOf {κ : Cx} {g : Gx} {M : ST} (hκ : CF κ g RX9 cX9_lesserOf wq_X9_lesserOf 1 rm_LR_lesserOf) {post : Int32 → ST → Prop} (hR : RtxI κ g 1 cX9_lesserOf M post) {X : ST} {p0 : Int32} (h : wp_LR_lesserOf X p0 post) : Jw κ g 1 X M [(0, .int p0)] 0 [] := by
  unfold wp_LR_lesserOf at h
  refine j_iload_n (pc' := 1) hκ 0 rfl rfl dX9_lesserOf_0 rfl ?_
  refine j_iconst (pc' := 2) (v := 4) hκ (by decide) dX9_lesserOf_1 rfl ?_
  refine j_ishr (pc' := 3) hκ dX9_lesserOf_2 rfl ?_
  refine j_bipush (pc' := 5) (v := 15) hκ (by decide) dX9_lesserOf_3 rfl ?_
  refine j_iand (pc' := 6) hκ dX9_lesserOf_5 rfl ?_
  exact hR _ _ _ _ dX9_lesserOf_6 h
theorem c_LR_lesserOf {g : Gx} (hg : Dg g) {X M : ST} {p0 : Int32} {post : Int32 → ST → Prop} (h : wp_LR_lesserOf X p0 post) (l : Launch) : Met l yX9_lesserOf wq_X9_lesserOf rm_LR_lesserOf (va_Pc [.int p0] (PU g X M)) (va_Qi post (fun Y t => va_P g.1 vwCl (ww g Y M) t.heap) (wA g)) 0 0 (wA g) :=
  met_xi hg (by decide) rfl [.int p0] rfl (Nat.le_of_ble_eq_true rfl) (fun κ hκ hR => lb_LR_lesserOf hκ hR h) l
theorem wm_34_11 : Cond.code yX9_lesserOf cX9_lesserOf 1 (some .int) ∈ wAll := inr_34 (List.mem_of_getElem? (i := 11) rfl)
theorem wm_34_10 : Cond.static yX9_lesserOf ∈ wAll := inr_34 (List.mem_of_getElem? (i := 10) rfl)
theorem hqS_X9_lesserOf : yX9_lesserOf.cls ≠ "java/lang/invoke/MethodHandle" ∧ yX9_lesserOf.cls ≠ "java/lang/invoke/VarHandle" ∧ (parseMethodDescriptor yX9_lesserOf.desc).map (fun d => d.parameters.length) = some 1 := by decide +kernel
abbrev rm_LR_greaterOf : Room := { frames := 0, cells := 0, slots := 0, locals := 0 }
def wp_LR_greaterOf (X : ST) (p0 : Int32) (post : Int32 → ST → Prop) : Prop :=
  post (p0 &&& 15) X
set_option maxHeartbeats 4000000 in
set_option maxRecDepth 100000 in
theorem lb_LR_greaterOf {κ : Cx} {g : Gx} {M : ST} (hκ : CF κ g RX9 cX9_greaterOf wq_X9_greaterOf 1 rm_LR_greaterOf) {post : Int32 → ST → Prop} (hR : RtxI κ g 1 cX9_greaterOf M post) {X : ST} {p0 : Int32} (h : wp_LR_greaterOf X p0 post) : Jw κ g 1 X M [(0, .int p0)] 0 [] := by
  unfold wp_LR_greaterOf at h
  refine j_iload_n (pc' := 1) hκ 0 rfl rfl dX9_greaterOf_0 rfl ?_
  refine j_bipush (pc' := 3) (v := 15) hκ (by decide) dX9_greaterOf_1 rfl ?_
  refine j_iand (pc' := 4) hκ dX9_greaterOf_3 rfl ?_
  exact hR _ _ _ _ dX9_greaterOf_4 h
theorem c_LR_greaterOf {g : Gx} (hg : Dg g) {X M : ST} {p0 : Int32} {post : Int32 → ST → Prop} (h : wp_LR_greaterOf X p0 post) (l : Launch) : Met l yX9_greaterOf wq_X9_greaterOf rm_LR_greaterOf (va_Pc [.int p0] (PU g X M)) (va_Qi post (fun Y t => va_P g.1 vwCl (ww g Y M) t.heap) (wA g)) 0 0 (wA g) :=
  met_xi hg (by decide) rfl [.int p0] rfl (Nat.le_of_ble_eq_true rfl) (fun κ hκ hR => lb_LR_greaterOf hκ hR h) l
theorem wm_34_13 : Cond.code yX9_greaterOf cX9_greaterOf 1 (some .int) ∈ wAll := inr_34 (List.mem_of_getElem? (i := 13) rfl)
theorem wm_34_12 : Cond.static yX9_greaterOf ∈ wAll := inr_34 (List.mem_of_getElem? (i := 12) rfl)
theorem hqS_X9_greaterOf : yX9_greaterOf.cls ≠ "java/lang/invoke/MethodHandle" ∧ yX9_greaterOf.cls ≠ "java/lang/invoke/VarHandle" ∧ (parseMethodDescriptor yX9_greaterOf.desc).map (fun d => d.parameters.length) = some 1 := by decide +kernel
theorem wm_6_15 : Cond.fieldLink RX8 40 "LampRound$Tree" "present" "LLampRound$Case;" ∈ wAll := inr_6 (List.mem_of_getElem? (i := 15) rfl)
abbrev rm_Tree_pricedAt : Room := { frames := 0, cells := 0, slots := 0, locals := 0 }
def wp_Tree_pricedAt (X : ST) (p1 : Int32) (post : Int64 → ST → Prop) : Prop :=
  vp_in p1 66 ∧ (post ((x_Tree_ranked X p1.toNatClampNeg) >>> ((8 : Int32).toInt64 &&& 63)) X)
set_option maxHeartbeats 4000000 in
set_option maxRecDepth 100000 in
theorem lb_Tree_pricedAt {κ : Cx} {g : Gx} {M : ST} (hκ : CF κ g RX8 cX8_pricedAt wq_X8_pricedAt 2 rm_Tree_pricedAt) {post : Int64 → ST → Prop} (hR : RtxL κ g 2 cX8_pricedAt M post) {X : ST} {p1 : Int32} (h : wp_Tree_pricedAt X p1 post) : Jw κ g 2 X M [(0, .ref (g.2.1 7)), (1, .int p1)] 0 [] := by
  unfold wp_Tree_pricedAt at h
  refine j_aload_n (pc' := 1) hκ 0 rfl rfl dX8_pricedAt_0 rfl ?_
  refine jg_7_2 (pc' := 4) hκ (mi inlX8) (fl_in hκ (mc wm_6_7)) dX8_pricedAt_1 rfl ?_
  refine j_iload_n (pc' := 5) hκ 1 rfl rfl dX8_pricedAt_4 rfl ?_
  refine jx_lald (pc' := 6) hκ (ah_38 g) h.1 dX8_pricedAt_5 rfl ?_
  replace h := h.2
  refine j_bipush (pc' := 8) (v := 8) hκ (by decide) dX8_pricedAt_6 rfl ?_
  refine j_lshr (pc' := 9) hκ dX8_pricedAt_8 rfl ?_
  exact hR _ _ _ _ dX8_pricedAt_9 h
theorem c_Tree_pricedAt {g : Gx} (hg : Dg g) {X M : ST} {p1 : Int32} {post : Int64 → ST → Prop} (h : wp_Tree_pricedAt X p1 post) (l : Launch) : Met l yX8_pricedAt wq_X8_pricedAt rm_Tree_pricedAt (va_Pc [.ref (g.2.1 7), .int p1] (PU g X M)) (va_Ql post (fun Y t => va_P g.1 vwCl (ww g Y M) t.heap) (wA g)) 0 0 (wA g) :=
  met_xl hg (by decide) rfl [.ref (g.2.1 7), .int p1] rfl (Nat.le_of_ble_eq_true rfl) (fun κ hκ hR => lb_Tree_pricedAt hκ hR h) l
theorem wm_34_18 : Cond.methodLink RX8 125 yX8_pricedAt ∈ wAll := inr_34 (List.mem_of_getElem? (i := 18) rfl)
theorem wm_34_19 : Cond.instanceMethod yX8_pricedAt ∈ wAll := inr_34 (List.mem_of_getElem? (i := 19) rfl)
theorem wm_34_20 : Cond.selects RX8 yX8_pricedAt yX8_pricedAt ∈ wAll := inr_34 (List.mem_of_getElem? (i := 20) rfl)
theorem wm_34_21 : Cond.code yX8_pricedAt cX8_pricedAt 2 (some .long) ∈ wAll := inr_34 (List.mem_of_getElem? (i := 21) rfl)
theorem hqV_X8_pricedAt : yX8_pricedAt.cls = RX8 ∧ yX8_pricedAt.cls ≠ "java/lang/invoke/MethodHandle" ∧ yX8_pricedAt.cls ≠ "java/lang/invoke/VarHandle" ∧ (parseMethodDescriptor yX8_pricedAt.desc).map (fun d => d.parameters.length) = some 1 := by decide +kernel
abbrev rm_Tree_mayTake : Room := { frames := 1, cells := 0, slots := 0, locals := 21 }
def wp_Tree_mayTake (X : ST) (p1 : Int32) (p2 : Int32) (post : Int32 → ST → Prop) : Prop :=
  wp_Tree_pairAt X p1 (fun r2 X1 => wp_LR_lesserOf X1 r2 (fun r4 X3 => wp_Tree_pairAt X3 p1 (fun r6 X5 => wp_LR_greaterOf X5 r6 (fun r8 X7 => vp_in r4 12 ∧ (wp_LR_isIn X7 (x_Case_joined X7 r4.toNatClampNeg) r8 (fun r10 X9 => (¬ r10 = p2 → (post 0 X9)) ∧ (r10 = p2 → (vp_in r4 12 ∧ (wp_LR_isIn X9 (x_Case_parted X9 r4.toNatClampNeg) r8 (fun r12 X11 => (¬ r12 = 0 → (post 0 X11)) ∧ (r12 = 0 → (wp_Tree_pricedAt X11 p1 (fun r14 X13 => (r14 = 1099511627776 → (post 0 X13)) ∧ (¬ r14 = 1099511627776 → (post 1 X13)))))))))))))))
set_option maxHeartbeats 4000000 in
set_option maxRecDepth 100000 in
theorem lb_Tree_mayTake {κ : Cx} {g : Gx} {M : ST} (hκ : CF κ g RX8 cX8_mayTake wq_X8_mayTake 5 rm_Tree_mayTake) {post : Int32 → ST → Prop} (hR : RtxZ κ g 5 cX8_mayTake M post) {X : ST} {p1 : Int32} {p2 : Int32} (h : wp_Tree_mayTake X p1 p2 post) : Jw κ g 5 X M [(0, .ref (g.2.1 7)), (1, .int p1), (2, .int p2)] 0 [] := by
  unfold wp_Tree_mayTake at h
  refine j_aload_n (pc' := 1) hκ 0 rfl rfl dX8_mayTake_0 rfl ?_
  refine j_iload_n (pc' := 2) hκ 1 rfl rfl dX8_mayTake_1 rfl ?_
  refine jx_callVi (pc' := 5) hκ (c_Tree_pairAt (dg hκ) h) rfl rfl rfl (gV wm_34_5 wm_34_6 wm_34_7 wm_2_15 wm_34_8) hqV_X8_pairAt ⟨Nat.le_of_ble_eq_true rfl, Nat.le_of_ble_eq_true rfl⟩ (wg_7 g _ _) rfl rfl rfl (Nat.le_of_ble_eq_true rfl) dX8_mayTake_2 rfl (fun r2 X1 h => ?_)
  refine jx_callNi (pc' := 8) hκ (c_LR_lesserOf (dg hκ) h) rfl rfl rfl (gN wm_34_11) 13 rfl (mc wm_1_2) (mc wm_34_10) hqS_X9_lesserOf ⟨Nat.le_of_ble_eq_true rfl, Nat.le_of_ble_eq_true rfl⟩ rfl rfl (Nat.le_of_ble_eq_true rfl) dX8_mayTake_5 rfl (fun r4 X3 h => ?_)
  refine j_istore_n (pc' := 9) (lv' := [(3, .int r4), (0, .ref (g.2.1 7)), (1, .int p1), (2, .int p2)]) hκ (Nat.le_of_ble_eq_true rfl) rfl rfl dX8_mayTake_8 rfl ?_
  refine j_aload_n (pc' := 10) hκ 1 rfl rfl dX8_mayTake_9 rfl ?_
  refine j_iload_n (pc' := 11) hκ 2 rfl rfl dX8_mayTake_10 rfl ?_
  refine jx_callVi (pc' := 14) hκ (c_Tree_pairAt (dg hκ) h) rfl rfl rfl (gV wm_34_5 wm_34_6 wm_34_7 wm_2_15 wm_34_8) hqV_X8_pairAt ⟨Nat.le_of_ble_eq_true rfl, Nat.le_of_ble_eq_true rfl⟩ (wg_7 g _ _) rfl rfl rfl (Nat.le_of_ble_eq_true rfl) dX8_mayTake_11 rfl (fun r6 X5 h => ?_)
  refine jx_callNi (pc' := 17) hκ (c_LR_greaterOf (dg hκ) h) rfl rfl rfl (gN wm_34_13) 14 rfl (mc wm_1_2) (mc wm_34_12) hqS_X9_greaterOf ⟨Nat.le_of_ble_eq_true rfl, Nat.le_of_ble_eq_true rfl⟩ rfl rfl (Nat.le_of_ble_eq_true rfl) dX8_mayTake_14 rfl (fun r8 X7 h => ?_)
  refine j_istore (pc' := 19) (lv' := [(4, .int r8), (3, .int r4), (0, .ref (g.2.1 7)), (1, .int p1), (2, .int p2)]) hκ (Nat.le_of_ble_eq_true rfl) rfl dX8_mayTake_17 rfl ?_
  refine j_aload_n (pc' := 20) hκ 2 rfl rfl dX8_mayTake_19 rfl ?_
  refine jg_7_1 (pc' := 23) hκ (mi inlX8) (fl_in hκ (mc wm_6_15)) dX8_mayTake_20 rfl ?_
  refine jg_6_0 (pc' := 26) hκ (mi inlX0) (fl_ne hκ 47 rfl) dX8_mayTake_23 rfl ?_
  refine j_iload_n (pc' := 27) hκ 1 rfl rfl dX8_mayTake_26 rfl ?_
  refine jx_iald (pc' := 28) hκ (ah_34 g) h.1 dX8_mayTake_27 rfl ?_
  replace h := h.2
  refine j_iload (pc' := 30) hκ 0 rfl dX8_mayTake_28 rfl ?_
  refine jx_callNi (pc' := 33) hκ (c_LR_isIn (dg hκ) h) rfl rfl rfl (gN wm_18_4) 16 rfl (mc wm_1_2) (mc wm_18_3) hqS_X9_isIn ⟨Nat.le_of_ble_eq_true rfl, Nat.le_of_ble_eq_true rfl⟩ rfl rfl (Nat.le_of_ble_eq_true rfl) dX8_mayTake_30 rfl (fun r10 X9 h => ?_)
  refine j_iload_n (pc' := 34) hκ 4 rfl rfl dX8_mayTake_33 rfl ?_
  refine j_icmp_ne (tgt := 70) (pc' := 37) hκ dX8_mayTake_34 (by decide) rfl (fun c => ?_) (fun c => ?_)
  · replace h := h.1 c
    refine j_iconst (pc' := 71) (v := 0) hκ (by decide) dX8_mayTake_70 rfl ?_
    exact hR _ _ _ _ dX8_mayTake_71 (Or.inl rfl) h
  · replace h := h.2 c
    refine j_aload_n (pc' := 38) hκ 2 rfl rfl dX8_mayTake_37 rfl ?_
    refine jg_7_1 (pc' := 41) hκ (mi inlX8) (fl_in hκ (mc wm_6_15)) dX8_mayTake_38 rfl ?_
    refine jg_6_1 (pc' := 44) hκ (mi inlX0) (fl_ne hκ 48 rfl) dX8_mayTake_41 rfl ?_
    refine j_iload_n (pc' := 45) hκ 1 rfl rfl dX8_mayTake_44 rfl ?_
    refine jx_iald (pc' := 46) hκ (ah_35 g) h.1 dX8_mayTake_45 rfl ?_
    replace h := h.2
    refine j_iload (pc' := 48) hκ 0 rfl dX8_mayTake_46 rfl ?_
    refine jx_callNi (pc' := 51) hκ (c_LR_isIn (dg hκ) h) rfl rfl rfl (gN wm_18_4) 16 rfl (mc wm_1_2) (mc wm_18_3) hqS_X9_isIn ⟨Nat.le_of_ble_eq_true rfl, Nat.le_of_ble_eq_true rfl⟩ rfl rfl (Nat.le_of_ble_eq_true rfl) dX8_mayTake_48 rfl (fun r12 X11 h => ?_)
    refine j_if_ne (tgt := 70) (pc' := 54) hκ dX8_mayTake_51 (by decide) rfl (fun c => ?_) (fun c => ?_)
    · replace h := h.1 c
      refine j_iconst (pc' := 71) (v := 0) hκ (by decide) dX8_mayTake_70 rfl ?_
      exact hR _ _ _ _ dX8_mayTake_71 (Or.inl rfl) h
    · replace h := h.2 c
      refine j_aload_n (pc' := 55) hκ 2 rfl rfl dX8_mayTake_54 rfl ?_
      refine j_iload_n (pc' := 56) hκ 3 rfl rfl dX8_mayTake_55 rfl ?_
      refine jx_callVl (pc' := 59) hκ (c_Tree_pricedAt (dg hκ) h) rfl rfl rfl (gV wm_34_18 wm_34_19 wm_34_20 wm_2_15 wm_34_21) hqV_X8_pricedAt ⟨Nat.le_of_ble_eq_true rfl, Nat.le_of_ble_eq_true rfl⟩ (wg_7 g _ _) rfl rfl rfl (Nat.le_of_ble_eq_true rfl) dX8_mayTake_56 rfl (fun r14 X13 h => ?_)
      refine j_ldc2_w (pc' := 62) hκ (mc wm_33_7) dX8_mayTake_59 rfl ?_
      refine j_lc_eq (tgt := 70) (pc1 := 63) (pc' := 66) hκ dX8_mayTake_62 rfl dX8_mayTake_63 (by decide) rfl (fun c => ?_) (fun c => ?_)
      · replace h := h.1 c
        refine j_iconst (pc' := 71) (v := 0) hκ (by decide) dX8_mayTake_70 rfl ?_
        exact hR _ _ _ _ dX8_mayTake_71 (Or.inl rfl) h
      · replace h := h.2 c
        refine j_iconst (pc' := 67) (v := 1) hκ (by decide) dX8_mayTake_66 rfl ?_
        refine j_goto (pc' := 71) hκ (by decide) dX8_mayTake_67 ?_
        exact hR _ _ _ _ dX8_mayTake_71 (Or.inr rfl) h
theorem c_Tree_mayTake {g : Gx} (hg : Dg g) {X M : ST} {p1 : Int32} {p2 : Int32} {post : Int32 → ST → Prop} (h : wp_Tree_mayTake X p1 p2 post) (l : Launch) : Met l yX8_mayTake wq_X8_mayTake rm_Tree_mayTake (va_Pc [.ref (g.2.1 7), .int p1, .int p2] (PU g X M)) (va_Qi post (fun Y t => va_P g.1 vwCl (ww g Y M) t.heap) (wA g)) 0 0 (wA g) :=
  met_xz hg (by decide) rfl [.ref (g.2.1 7), .int p1, .int p2] rfl (Nat.le_of_ble_eq_true rfl) (fun κ hκ hR => lb_Tree_mayTake hκ hR h) l
theorem wm_34_14 : Cond.methodLink RX8 111 yX8_mayTake ∈ wAll := inr_34 (List.mem_of_getElem? (i := 14) rfl)
theorem wm_34_15 : Cond.instanceMethod yX8_mayTake ∈ wAll := inr_34 (List.mem_of_getElem? (i := 15) rfl)
theorem wm_34_16 : Cond.selects RX8 yX8_mayTake yX8_mayTake ∈ wAll := inr_34 (List.mem_of_getElem? (i := 16) rfl)
theorem wm_34_17 : Cond.code yX8_mayTake cX8_mayTake 5 (some .boolean) ∈ wAll := inr_34 (List.mem_of_getElem? (i := 17) rfl)
theorem hqV_X8_mayTake : yX8_mayTake.cls = RX8 ∧ yX8_mayTake.cls ≠ "java/lang/invoke/MethodHandle" ∧ yX8_mayTake.cls ≠ "java/lang/invoke/VarHandle" ∧ (parseMethodDescriptor yX8_mayTake.desc).map (fun d => d.parameters.length) = some 2 := by decide +kernel
theorem wm_6_8 : Cond.fieldLink RX8 15 "LampRound$Tree" "takenPairs" "[I" ∈ wAll := inr_6 (List.mem_of_getElem? (i := 8) rfl)
abbrev rm_Tree_take : Room := { frames := 1, cells := 0, slots := 0, locals := 21 }
def wp_Tree_take_72_s (K102 : ST → Prop) (post : ST → Prop) (rec : ST → Int32 → Int32 → Prop) (X : ST) (l3 : Int32) (l4 : Int32) : Prop :=
  (12 ≤ l4 → (K102 X)) ∧ (¬ 12 ≤ l4 → (wp_LR_isIn X l3 l4 (fun r12 X11 => (r12 = 0 → (rec X11 l3 (l4 + 1))) ∧ (¬ r12 = 0 → (vp_in l4 12 ∧ (∀ X13 : ST, X13 = xs_Tree_hung X11 (upd (x_Tree_hung X11) l4.toNatClampNeg l3) → rec X13 l3 (l4 + 1)))))))
def wp_Tree_take_72 (K102 : ST → Prop) (post : ST → Prop) : Nat → ST → Int32 → Int32 → Prop
  | 0 => fun _ _ _ => False
  | n + 1 => wp_Tree_take_72_s K102 post (wp_Tree_take_72 K102 post n)
set_option maxHeartbeats 4000000 in
set_option maxRecDepth 100000 in
theorem lb_Tree_take_72 {κ : Cx} {g : Gx} {M : ST} (hκ : CF κ g RX8 cX8_take wq_X8_take 5 rm_Tree_take) {post : ST → Prop} (hR : RtxV κ g 5 cX8_take M post) {K102 : ST → Prop} (hK102 : ∀ (X : ST), K102 X → Jw κ g 5 X M [] 102 []) : ∀ (n : Nat) (X : ST) (l3 : Int32) (l4 : Int32), wp_Tree_take_72 K102 post n X l3 l4 → Jw κ g 5 X M [(0, .ref (g.2.1 7)), (3, .int l3), (4, .int l4)] 72 [] := by
  intro n
  induction n with
  | zero =>
    intro X l3 l4  h
    exact h.elim
  | succ n ih =>
    intro X l3 l4  h
    have h : wp_Tree_take_72_s K102 post (wp_Tree_take_72 K102 post n) X l3 l4 := h
    unfold wp_Tree_take_72_s at h
    refine j_iload (pc' := 74) hκ 2 rfl dX8_take_72 rfl ?_
    refine j_bipush (pc' := 76) (v := 12) hκ (by decide) dX8_take_74 rfl ?_
    refine j_icmp_ge (tgt := 102) (pc' := 79) hκ dX8_take_76 (by decide) rfl (fun c => ?_) (fun c => ?_)
    · replace h := h.1 c
      refine j_sub [] rfl ?_
      exact hK102 _  h
    · replace h := h.2 c
      refine j_iload_n (pc' := 80) hκ 1 rfl rfl dX8_take_79 rfl ?_
      refine j_iload (pc' := 82) hκ 2 rfl dX8_take_80 rfl ?_
      refine jx_callNi (pc' := 85) hκ (c_LR_isIn (dg hκ) h) rfl rfl rfl (gN wm_18_4) 16 rfl (mc wm_1_2) (mc wm_18_3) hqS_X9_isIn ⟨Nat.le_of_ble_eq_true rfl, Nat.le_of_ble_eq_true rfl⟩ rfl rfl (Nat.le_of_ble_eq_true rfl) dX8_take_82 rfl (fun r12 X11 h => ?_)
      refine j_if_eq (tgt := 96) (pc' := 88) hκ dX8_take_85 (by decide) rfl (fun c => ?_) (fun c => ?_)
      · replace h := h.1 c
        refine j_iinc (pc' := 99) (v := l4 + 1) (lv' := [(4, .int (l4 + 1)), (0, .ref (g.2.1 7)), (3, .int l3)]) hκ 2 rfl rfl (Nat.le_of_ble_eq_true rfl) rfl dX8_take_96 rfl ?_
        refine j_goto (pc' := 72) hκ (by decide) dX8_take_99 ?_
        refine j_sub [1, 2, 0] rfl ?_
        exact ih _ _ _  h
      · replace h := h.2 c
        refine j_aload_n (pc' := 89) hκ 0 rfl rfl dX8_take_88 rfl ?_
        refine jg_7_4 (pc' := 92) hκ (mi inlX8) (fl_in hκ (mc wm_6_9)) dX8_take_89 rfl ?_
        refine j_iload (pc' := 94) hκ 2 rfl dX8_take_92 rfl ?_
        refine j_iload_n (pc' := 95) hκ 1 rfl rfl dX8_take_94 rfl ?_
        refine jx_iast (pc' := 96) hκ (ah_40 g) h.1 dX8_take_95 rfl ?_
        replace h := h.2
        refine j_nmX (fun X13 eX13 => ?_)
        replace h := h X13 eX13
        refine j_iinc (pc' := 99) (v := l4 + 1) (lv' := [(4, .int (l4 + 1)), (0, .ref (g.2.1 7)), (3, .int l3)]) hκ 2 rfl rfl (Nat.le_of_ble_eq_true rfl) rfl dX8_take_96 rfl ?_
        refine j_goto (pc' := 72) hκ (by decide) dX8_take_99 ?_
        refine j_sub [1, 2, 0] rfl ?_
        exact ih _ _ _  h
def wp_Tree_take_35 (post : ST → Prop) (X : ST) (l1 : Int32) (l2 : Int32) : Prop :=
  wp_Tree_pricedAt X l1 (fun r4 X3 => ∀ X5 : ST, X5 = xs_Tree_sum X3 ((x_Tree_sum X) + r4) → wp_LR_lesserOf X5 l2 (fun r7 X6 => vp_in r7 12 ∧ (wp_LR_greaterOf X6 l2 (fun r9 X8 => vp_in r9 12 ∧ (∀ v10 : Int32, v10 = (x_Tree_hung X6 r7.toNatClampNeg) ||| (x_Tree_hung X8 r9.toNatClampNeg) → ∃ n, wp_Tree_take_72 (fun X14 => post X14) post n X8 v10 0)))))
set_option maxHeartbeats 4000000 in
set_option maxRecDepth 100000 in
theorem lb_Tree_take_35 {κ : Cx} {g : Gx} {M : ST} (hκ : CF κ g RX8 cX8_take wq_X8_take 5 rm_Tree_take) {post : ST → Prop} (hR : RtxV κ g 5 cX8_take M post) : ∀ (X : ST) (l1 : Int32) (l2 : Int32), wp_Tree_take_35 post X l1 l2 → Jw κ g 5 X M [(0, .ref (g.2.1 7)), (1, .int l1), (2, .int l2)] 35 [] := by
  intro X l1 l2  h
  unfold wp_Tree_take_35 at h
  refine j_aload_n (pc' := 36) hκ 0 rfl rfl dX8_take_35 rfl ?_
  refine j_dup (pc' := 37) hκ rfl dX8_take_36 rfl ?_
  refine jg_7_8 (pc' := 40) hκ (mi inlX8) (fl_in hκ (mc wm_6_13)) dX8_take_37 rfl ?_
  refine j_aload_n (pc' := 41) hκ 0 rfl rfl dX8_take_40 rfl ?_
  refine j_iload_n (pc' := 42) hκ 1 rfl rfl dX8_take_41 rfl ?_
  refine jx_callVl (pc' := 45) hκ (c_Tree_pricedAt (dg hκ) h) rfl rfl rfl (gV wm_34_18 wm_34_19 wm_34_20 wm_2_15 wm_34_21) hqV_X8_pricedAt ⟨Nat.le_of_ble_eq_true rfl, Nat.le_of_ble_eq_true rfl⟩ (wg_7 g _ _) rfl rfl rfl (Nat.le_of_ble_eq_true rfl) dX8_take_42 rfl (fun r4 X3 h => ?_)
  refine j_ladd (pc' := 46) hκ dX8_take_45 rfl ?_
  refine jp_7_8 (pc' := 49) hκ (mi inlX8) (fl_in hκ (mc wm_6_13)) dX8_take_46 rfl ?_
  refine j_nmX (fun X5 eX5 => ?_)
  replace h := h X5 eX5
  refine j_aload_n (pc' := 50) hκ 0 rfl rfl dX8_take_49 rfl ?_
  refine jg_7_4 (pc' := 53) hκ (mi inlX8) (fl_in hκ (mc wm_6_9)) dX8_take_50 rfl ?_
  refine j_iload_n (pc' := 54) hκ 2 rfl rfl dX8_take_53 rfl ?_
  refine jx_callNi (pc' := 57) hκ (c_LR_lesserOf (dg hκ) h) rfl rfl rfl (gN wm_34_11) 13 rfl (mc wm_1_2) (mc wm_34_10) hqS_X9_lesserOf ⟨Nat.le_of_ble_eq_true rfl, Nat.le_of_ble_eq_true rfl⟩ rfl rfl (Nat.le_of_ble_eq_true rfl) dX8_take_54 rfl (fun r7 X6 h => ?_)
  refine jx_iald (pc' := 58) hκ (ah_40 g) h.1 dX8_take_57 rfl ?_
  replace h := h.2
  refine j_aload_n (pc' := 59) hκ 0 rfl rfl dX8_take_58 rfl ?_
  refine jg_7_4 (pc' := 62) hκ (mi inlX8) (fl_in hκ (mc wm_6_9)) dX8_take_59 rfl ?_
  refine j_iload_n (pc' := 63) hκ 2 rfl rfl dX8_take_62 rfl ?_
  refine jx_callNi (pc' := 66) hκ (c_LR_greaterOf (dg hκ) h) rfl rfl rfl (gN wm_34_13) 14 rfl (mc wm_1_2) (mc wm_34_12) hqS_X9_greaterOf ⟨Nat.le_of_ble_eq_true rfl, Nat.le_of_ble_eq_true rfl⟩ rfl rfl (Nat.le_of_ble_eq_true rfl) dX8_take_63 rfl (fun r9 X8 h => ?_)
  refine jx_iald (pc' := 67) hκ (ah_40 g) h.1 dX8_take_66 rfl ?_
  replace h := h.2
  refine j_ior (pc' := 68) hκ dX8_take_67 rfl ?_
  refine j_topi (fun v10 ev10 => ?_)
  replace h := h v10 ev10
  refine j_istore_n (pc' := 69) (lv' := [(3, .int v10), (0, .ref (g.2.1 7)), (1, .int l1), (2, .int l2)]) hκ (Nat.le_of_ble_eq_true rfl) rfl rfl dX8_take_68 rfl ?_
  refine j_iconst (pc' := 70) (v := 0) hκ (by decide) dX8_take_69 rfl ?_
  refine j_istore (pc' := 72) (lv' := [(4, .int 0), (3, .int v10), (0, .ref (g.2.1 7)), (1, .int l1), (2, .int l2)]) hκ (Nat.le_of_ble_eq_true rfl) rfl dX8_take_70 rfl ?_
  obtain ⟨n, h⟩ := h
  refine j_sub [2, 1, 0] rfl ?_
  refine lb_Tree_take_72 hκ hR ?_ n _ _ _  h
  intro X14  h
  exact hR _ _ _ dX8_take_102 h
def wp_Tree_take (X : ST) (p1 : Int32) (post : ST → Prop) : Prop :=
  wp_Tree_pairAt X p1 (fun r2 X1 => (12 ≤ (x_Tree_takenCount X1) → (wp_Tree_take_35 post X1 p1 r2)) ∧ (¬ 12 ≤ (x_Tree_takenCount X1) → (vp_in (x_Tree_takenCount X1) 12 ∧ (∀ X15 : ST, X15 = xs_Tree_takenPairs X1 (upd (x_Tree_takenPairs X1) (x_Tree_takenCount X1).toNatClampNeg r2) → ∀ X16 : ST, X16 = xs_Tree_takenCount X15 ((x_Tree_takenCount X15) + 1) → wp_Tree_take_35 post X16 p1 r2))))
set_option maxHeartbeats 4000000 in
set_option maxRecDepth 100000 in
theorem lb_Tree_take {κ : Cx} {g : Gx} {M : ST} (hκ : CF κ g RX8 cX8_take wq_X8_take 5 rm_Tree_take) {post : ST → Prop} (hR : RtxV κ g 5 cX8_take M post) {X : ST} {p1 : Int32} (h : wp_Tree_take X p1 post) : Jw κ g 5 X M [(0, .ref (g.2.1 7)), (1, .int p1)] 0 [] := by
  unfold wp_Tree_take at h
  refine j_aload_n (pc' := 1) hκ 0 rfl rfl dX8_take_0 rfl ?_
  refine j_iload_n (pc' := 2) hκ 1 rfl rfl dX8_take_1 rfl ?_
  refine jx_callVi (pc' := 5) hκ (c_Tree_pairAt (dg hκ) h) rfl rfl rfl (gV wm_34_5 wm_34_6 wm_34_7 wm_2_15 wm_34_8) hqV_X8_pairAt ⟨Nat.le_of_ble_eq_true rfl, Nat.le_of_ble_eq_true rfl⟩ (wg_7 g _ _) rfl rfl rfl (Nat.le_of_ble_eq_true rfl) dX8_take_2 rfl (fun r2 X1 h => ?_)
  refine j_istore_n (pc' := 6) (lv' := [(2, .int r2), (0, .ref (g.2.1 7)), (1, .int p1)]) hκ (Nat.le_of_ble_eq_true rfl) rfl rfl dX8_take_5 rfl ?_
  refine j_aload_n (pc' := 7) hκ 1 rfl rfl dX8_take_6 rfl ?_
  refine jg_7_6 (pc' := 10) hκ (mi inlX8) (fl_in hκ (mc wm_6_11)) dX8_take_7 rfl ?_
  refine j_bipush (pc' := 12) (v := 12) hκ (by decide) dX8_take_10 rfl ?_
  refine j_icmp_ge (tgt := 35) (pc' := 15) hκ dX8_take_12 (by decide) rfl (fun c => ?_) (fun c => ?_)
  · replace h := h.1 c
    refine j_sub [1, 2, 0] rfl ?_
    refine lb_Tree_take_35 hκ hR _ _ _  h
  · replace h := h.2 c
    refine j_aload_n (pc' := 16) hκ 1 rfl rfl dX8_take_15 rfl ?_
    refine jg_7_3 (pc' := 19) hκ (mi inlX8) (fl_in hκ (mc wm_6_8)) dX8_take_16 rfl ?_
    refine j_aload_n (pc' := 20) hκ 1 rfl rfl dX8_take_19 rfl ?_
    refine jg_7_6 (pc' := 23) hκ (mi inlX8) (fl_in hκ (mc wm_6_11)) dX8_take_20 rfl ?_
    refine j_iload_n (pc' := 24) hκ 0 rfl rfl dX8_take_23 rfl ?_
    refine jx_iast (pc' := 25) hκ (ah_39 g) h.1 dX8_take_24 rfl ?_
    replace h := h.2
    refine j_nmX (fun X15 eX15 => ?_)
    replace h := h X15 eX15
    refine j_aload_n (pc' := 26) hκ 1 rfl rfl dX8_take_25 rfl ?_
    refine j_dup (pc' := 27) hκ rfl dX8_take_26 rfl ?_
    refine jg_7_6 (pc' := 30) hκ (mi inlX8) (fl_in hκ (mc wm_6_11)) dX8_take_27 rfl ?_
    refine j_iconst (pc' := 31) (v := 1) hκ (by decide) dX8_take_30 rfl ?_
    refine j_iadd (pc' := 32) hκ dX8_take_31 rfl ?_
    refine jp_7_6 (pc' := 35) hκ (mi inlX8) (fl_in hκ (mc wm_6_11)) dX8_take_32 rfl ?_
    refine j_nmX (fun X16 eX16 => ?_)
    replace h := h X16 eX16
    refine j_sub [1, 2, 0] rfl ?_
    refine lb_Tree_take_35 hκ hR _ _ _  h
theorem c_Tree_take {g : Gx} (hg : Dg g) {X M : ST} {p1 : Int32} {post : ST → Prop} (h : wp_Tree_take X p1 post) (l : Launch) : Met l yX8_take wq_X8_take rm_Tree_take (va_Pc [.ref (g.2.1 7), .int p1] (PU g X M)) (va_Qv post (fun Y t => va_P g.1 vwCl (ww g Y M) t.heap) (wA g)) 0 0 (wA g) :=
  met_xv hg (by decide) rfl [.ref (g.2.1 7), .int p1] rfl (Nat.le_of_ble_eq_true rfl) (fun κ hκ hR => lb_Tree_take hκ hR h) l
theorem wm_34_22 : Cond.methodLink RX8 115 yX8_take ∈ wAll := inr_34 (List.mem_of_getElem? (i := 22) rfl)
theorem wm_34_23 : Cond.instanceMethod yX8_take ∈ wAll := inr_34 (List.mem_of_getElem? (i := 23) rfl)
theorem wm_35_0 : Cond.selects RX8 yX8_take yX8_take ∈ wAll := inr_35 (List.mem_of_getElem? (i := 0) rfl)
theorem wm_35_1 : Cond.code yX8_take cX8_take 5 none ∈ wAll := inr_35 (List.mem_of_getElem? (i := 1) rfl)
theorem hqV_X8_take : yX8_take.cls = RX8 ∧ yX8_take.cls ≠ "java/lang/invoke/MethodHandle" ∧ yX8_take.cls ≠ "java/lang/invoke/VarHandle" ∧ (parseMethodDescriptor yX8_take.desc).map (fun d => d.parameters.length) = some 1 := by decide +kernel
abbrev rm_Tree_takeOthers : Room := { frames := 2, cells := 0, slots := 0, locals := 45 }
def wp_Tree_takeOthers_13_s (K95 : ST → Prop) (post : ST → Prop) (rec : ST → Int32 → Int32 → Int32 → Int32 → Prop) (X : ST) (l1 : Int32) (l2 : Int32) (l3 : Int32) (l4 : Int32) : Prop :=
  ((x_Tree_pairs X) ≤ l4 → (K95 X)) ∧ (¬ (x_Tree_pairs X) ≤ l4 → ((l3 ≤ (x_Tree_takenCount X) → (K95 X)) ∧ (¬ l3 ≤ (x_Tree_takenCount X) → (wp_Tree_pairAt X l4 (fun r5 X4 => wp_LR_lesserOf X4 r5 (fun r7 X6 => wp_Tree_pairAt X6 l4 (fun r9 X8 => wp_LR_greaterOf X8 r9 (fun r11 X10 => (r7 = l1 → (rec X10 l1 l2 l3 (l4 + 1))) ∧ (¬ r7 = l1 → (vp_in r7 12 ∧ (wp_LR_isIn X10 (x_Tree_hung X10 r7.toNatClampNeg) r11 (fun r13 X12 => (¬ r13 = 0 → (rec X12 l1 l2 l3 (l4 + 1))) ∧ (r13 = 0 → (wp_Tree_mayTake X12 l4 l2 (fun r15 X14 => (r15 = 0 → (rec X14 l1 l2 l3 (l4 + 1))) ∧ (¬ r15 = 0 → (wp_Tree_take X14 l4 (fun X16 => rec X16 l1 l2 l3 (l4 + 1)))))))))))))))))))
def wp_Tree_takeOthers_13 (K95 : ST → Prop) (post : ST → Prop) : Nat → ST → Int32 → Int32 → Int32 → Int32 → Prop
  | 0 => fun _ _ _ _ _ => False
  | n + 1 => wp_Tree_takeOthers_13_s K95 post (wp_Tree_takeOthers_13 K95 post n)
set_option maxHeartbeats 4000000 in
set_option maxRecDepth 100000 in
theorem lb_Tree_takeOthers_13 {κ : Cx} {g : Gx} {M : ST} (hκ : CF κ g RX8 cX8_takeOthers wq_X8_takeOthers 7 rm_Tree_takeOthers) {post : ST → Prop} (hR : RtxV κ g 7 cX8_takeOthers M post) {K95 : ST → Prop} (hK95 : ∀ (X : ST), K95 X → Jw κ g 7 X M [] 95 []) : ∀ (n : Nat) (X : ST) (l1 : Int32) (l2 : Int32) (l3 : Int32) (l4 : Int32), wp_Tree_takeOthers_13 K95 post n X l1 l2 l3 l4 → Jw κ g 7 X M [(0, .ref (g.2.1 7)), (1, .int l1), (2, .int l2), (3, .int l3), (4, .int l4)] 13 [] := by
  intro n
  induction n with
  | zero =>
    intro X l1 l2 l3 l4  h
    exact h.elim
  | succ n ih =>
    intro X l1 l2 l3 l4  h
    have h : wp_Tree_takeOthers_13_s K95 post (wp_Tree_takeOthers_13 K95 post n) X l1 l2 l3 l4 := h
    unfold wp_Tree_takeOthers_13_s at h
    refine j_iload (pc' := 15) hκ 4 rfl dX8_takeOthers_13 rfl ?_
    refine j_aload_n (pc' := 16) hκ 0 rfl rfl dX8_takeOthers_15 rfl ?_
    refine jg_7_5 (pc' := 19) hκ (mi inlX8) (fl_in hκ (mc wm_6_10)) dX8_takeOthers_16 rfl ?_
    refine j_icmp_ge (tgt := 95) (pc' := 22) hκ dX8_takeOthers_19 (by decide) rfl (fun c => ?_) (fun c => ?_)
    · replace h := h.1 c
      refine j_sub [] rfl ?_
      exact hK95 _  h
    · replace h := h.2 c
      refine j_aload_n (pc' := 23) hκ 0 rfl rfl dX8_takeOthers_22 rfl ?_
      refine jg_7_6 (pc' := 26) hκ (mi inlX8) (fl_in hκ (mc wm_6_11)) dX8_takeOthers_23 rfl ?_
      refine j_iload_n (pc' := 27) hκ 3 rfl rfl dX8_takeOthers_26 rfl ?_
      refine j_icmp_ge (tgt := 95) (pc' := 30) hκ dX8_takeOthers_27 (by decide) rfl (fun c => ?_) (fun c => ?_)
      · replace h := h.1 c
        refine j_sub [] rfl ?_
        exact hK95 _  h
      · replace h := h.2 c
        refine j_aload_n (pc' := 31) hκ 0 rfl rfl dX8_takeOthers_30 rfl ?_
        refine j_iload (pc' := 33) hκ 4 rfl dX8_takeOthers_31 rfl ?_
        refine jx_callVi (pc' := 36) hκ (c_Tree_pairAt (dg hκ) h) rfl rfl rfl (gV wm_34_5 wm_34_6 wm_34_7 wm_2_15 wm_34_8) hqV_X8_pairAt ⟨Nat.le_of_ble_eq_true rfl, Nat.le_of_ble_eq_true rfl⟩ (wg_7 g _ _) rfl rfl rfl (Nat.le_of_ble_eq_true rfl) dX8_takeOthers_33 rfl (fun r5 X4 h => ?_)
        refine jx_callNi (pc' := 39) hκ (c_LR_lesserOf (dg hκ) h) rfl rfl rfl (gN wm_34_11) 13 rfl (mc wm_1_2) (mc wm_34_10) hqS_X9_lesserOf ⟨Nat.le_of_ble_eq_true rfl, Nat.le_of_ble_eq_true rfl⟩ rfl rfl (Nat.le_of_ble_eq_true rfl) dX8_takeOthers_36 rfl (fun r7 X6 h => ?_)
        refine j_istore (pc' := 41) (lv' := [(5, .int r7), (0, .ref (g.2.1 7)), (1, .int l1), (2, .int l2), (3, .int l3), (4, .int l4)]) hκ (Nat.le_of_ble_eq_true rfl) rfl dX8_takeOthers_39 rfl ?_
        refine j_aload_n (pc' := 42) hκ 1 rfl rfl dX8_takeOthers_41 rfl ?_
        refine j_iload (pc' := 44) hκ 5 rfl dX8_takeOthers_42 rfl ?_
        refine jx_callVi (pc' := 47) hκ (c_Tree_pairAt (dg hκ) h) rfl rfl rfl (gV wm_34_5 wm_34_6 wm_34_7 wm_2_15 wm_34_8) hqV_X8_pairAt ⟨Nat.le_of_ble_eq_true rfl, Nat.le_of_ble_eq_true rfl⟩ (wg_7 g _ _) rfl rfl rfl (Nat.le_of_ble_eq_true rfl) dX8_takeOthers_44 rfl (fun r9 X8 h => ?_)
        refine jx_callNi (pc' := 50) hκ (c_LR_greaterOf (dg hκ) h) rfl rfl rfl (gN wm_34_13) 14 rfl (mc wm_1_2) (mc wm_34_12) hqS_X9_greaterOf ⟨Nat.le_of_ble_eq_true rfl, Nat.le_of_ble_eq_true rfl⟩ rfl rfl (Nat.le_of_ble_eq_true rfl) dX8_takeOthers_47 rfl (fun r11 X10 h => ?_)
        refine j_istore (pc' := 52) (lv' := [(6, .int r11), (5, .int r7), (0, .ref (g.2.1 7)), (1, .int l1), (2, .int l2), (3, .int l3), (4, .int l4)]) hκ (Nat.le_of_ble_eq_true rfl) rfl dX8_takeOthers_50 rfl ?_
        refine j_iload (pc' := 54) hκ 1 rfl dX8_takeOthers_52 rfl ?_
        refine j_iload_n (pc' := 55) hκ 3 rfl rfl dX8_takeOthers_54 rfl ?_
        refine j_icmp_eq (tgt := 89) (pc' := 58) hκ dX8_takeOthers_55 (by decide) rfl (fun c => ?_) (fun c => ?_)
        · replace h := h.1 c
          refine j_iinc (pc' := 92) (v := l4 + 1) (lv' := [(4, .int (l4 + 1)), (6, .int r11), (5, .int r7), (0, .ref (g.2.1 7)), (1, .int l1), (2, .int l2), (3, .int l3)]) hκ 6 rfl rfl (Nat.le_of_ble_eq_true rfl) rfl dX8_takeOthers_89 rfl ?_
          refine j_goto (pc' := 13) hκ (by decide) dX8_takeOthers_92 ?_
          refine j_sub [3, 4, 5, 6, 0] rfl ?_
          exact ih _ _ _ _ _  h
        · replace h := h.2 c
          refine j_aload_n (pc' := 59) hκ 2 rfl rfl dX8_takeOthers_58 rfl ?_
          refine jg_7_4 (pc' := 62) hκ (mi inlX8) (fl_in hκ (mc wm_6_9)) dX8_takeOthers_59 rfl ?_
          refine j_iload (pc' := 64) hκ 1 rfl dX8_takeOthers_62 rfl ?_
          refine jx_iald (pc' := 65) hκ (ah_40 g) h.1 dX8_takeOthers_64 rfl ?_
          replace h := h.2
          refine j_iload (pc' := 67) hκ 0 rfl dX8_takeOthers_65 rfl ?_
          refine jx_callNi (pc' := 70) hκ (c_LR_isIn (dg hκ) h) rfl rfl rfl (gN wm_18_4) 16 rfl (mc wm_1_2) (mc wm_18_3) hqS_X9_isIn ⟨Nat.le_of_ble_eq_true rfl, Nat.le_of_ble_eq_true rfl⟩ rfl rfl (Nat.le_of_ble_eq_true rfl) dX8_takeOthers_67 rfl (fun r13 X12 h => ?_)
          refine j_if_ne (tgt := 89) (pc' := 73) hκ dX8_takeOthers_70 (by decide) rfl (fun c => ?_) (fun c => ?_)
          · replace h := h.1 c
            refine j_iinc (pc' := 92) (v := l4 + 1) (lv' := [(4, .int (l4 + 1)), (6, .int r11), (5, .int r7), (0, .ref (g.2.1 7)), (1, .int l1), (2, .int l2), (3, .int l3)]) hκ 6 rfl rfl (Nat.le_of_ble_eq_true rfl) rfl dX8_takeOthers_89 rfl ?_
            refine j_goto (pc' := 13) hκ (by decide) dX8_takeOthers_92 ?_
            refine j_sub [3, 4, 5, 6, 0] rfl ?_
            exact ih _ _ _ _ _  h
          · replace h := h.2 c
            refine j_aload_n (pc' := 74) hκ 2 rfl rfl dX8_takeOthers_73 rfl ?_
            refine j_iload (pc' := 76) hκ 6 rfl dX8_takeOthers_74 rfl ?_
            refine j_iload_n (pc' := 77) hκ 4 rfl rfl dX8_takeOthers_76 rfl ?_
            refine jx_callVi (pc' := 80) hκ (c_Tree_mayTake (dg hκ) h) rfl rfl rfl (gV wm_34_14 wm_34_15 wm_34_16 wm_2_15 wm_34_17) hqV_X8_mayTake ⟨Nat.le_of_ble_eq_true rfl, Nat.le_of_ble_eq_true rfl⟩ (wg_7 g _ _) rfl rfl rfl (Nat.le_of_ble_eq_true rfl) dX8_takeOthers_77 rfl (fun r15 X14 h => ?_)
            refine j_if_eq (tgt := 89) (pc' := 83) hκ dX8_takeOthers_80 (by decide) rfl (fun c => ?_) (fun c => ?_)
            · replace h := h.1 c
              refine j_iinc (pc' := 92) (v := l4 + 1) (lv' := [(4, .int (l4 + 1)), (6, .int r11), (5, .int r7), (0, .ref (g.2.1 7)), (1, .int l1), (2, .int l2), (3, .int l3)]) hκ 6 rfl rfl (Nat.le_of_ble_eq_true rfl) rfl dX8_takeOthers_89 rfl ?_
              refine j_goto (pc' := 13) hκ (by decide) dX8_takeOthers_92 ?_
              refine j_sub [3, 4, 5, 6, 0] rfl ?_
              exact ih _ _ _ _ _  h
            · replace h := h.2 c
              refine j_aload_n (pc' := 84) hκ 2 rfl rfl dX8_takeOthers_83 rfl ?_
              refine j_iload (pc' := 86) hκ 6 rfl dX8_takeOthers_84 rfl ?_
              refine jx_callVv (pc' := 89) hκ (c_Tree_take (dg hκ) h) rfl rfl rfl (gV wm_34_22 wm_34_23 wm_35_0 wm_2_15 wm_35_1) hqV_X8_take ⟨Nat.le_of_ble_eq_true rfl, Nat.le_of_ble_eq_true rfl⟩ (wg_7 g _ _) rfl rfl rfl (Nat.le_of_ble_eq_true rfl) dX8_takeOthers_86 rfl (fun X16 h => ?_)
              refine j_iinc (pc' := 92) (v := l4 + 1) (lv' := [(4, .int (l4 + 1)), (6, .int r11), (5, .int r7), (0, .ref (g.2.1 7)), (1, .int l1), (2, .int l2), (3, .int l3)]) hκ 6 rfl rfl (Nat.le_of_ble_eq_true rfl) rfl dX8_takeOthers_89 rfl ?_
              refine j_goto (pc' := 13) hκ (by decide) dX8_takeOthers_92 ?_
              refine j_sub [3, 4, 5, 6, 0] rfl ?_
              exact ih _ _ _ _ _  h
def wp_Tree_takeOthers (X : ST) (p1 : Int32) (p2 : Int32) (post : ST → Prop) : Prop :=
  wp_Lamps_liveCount X (fun r2 X1 => ∀ v3 : Int32, v3 = r2 - 2 → ∃ n, wp_Tree_takeOthers_13 (fun X18 => post X18) post n X1 p1 p2 v3 0)
set_option maxHeartbeats 4000000 in
set_option maxRecDepth 100000 in
theorem lb_Tree_takeOthers {κ : Cx} {g : Gx} {M : ST} (hκ : CF κ g RX8 cX8_takeOthers wq_X8_takeOthers 7 rm_Tree_takeOthers) {post : ST → Prop} (hR : RtxV κ g 7 cX8_takeOthers M post) {X : ST} {p1 : Int32} {p2 : Int32} (h : wp_Tree_takeOthers X p1 p2 post) : Jw κ g 7 X M [(0, .ref (g.2.1 7)), (1, .int p1), (2, .int p2)] 0 [] := by
  unfold wp_Tree_takeOthers at h
  refine j_aload_n (pc' := 1) hκ 0 rfl rfl dX8_takeOthers_0 rfl ?_
  refine jg_7_0 (pc' := 4) hκ (mi inlX8) (fl_in hκ (mc wm_6_14)) dX8_takeOthers_1 rfl ?_
  refine jx_callVi (pc' := 7) hκ (c_Lamps_liveCount (dg hκ) h) rfl rfl rfl (gV wm_34_4 wm_20_20 wm_20_21 wm_1_23 wm_20_22) hqV_X2_liveCount ⟨Nat.le_of_ble_eq_true rfl, Nat.le_of_ble_eq_true rfl⟩ (wg_3 g _ _) rfl rfl rfl (Nat.le_of_ble_eq_true rfl) dX8_takeOthers_4 rfl (fun r2 X1 h => ?_)
  refine j_iconst (pc' := 8) (v := 2) hκ (by decide) dX8_takeOthers_7 rfl ?_
  refine j_isub (pc' := 9) hκ dX8_takeOthers_8 rfl ?_
  refine j_topi (fun v3 ev3 => ?_)
  replace h := h v3 ev3
  refine j_istore_n (pc' := 10) (lv' := [(3, .int v3), (0, .ref (g.2.1 7)), (1, .int p1), (2, .int p2)]) hκ (Nat.le_of_ble_eq_true rfl) rfl rfl dX8_takeOthers_9 rfl ?_
  refine j_iconst (pc' := 11) (v := 0) hκ (by decide) dX8_takeOthers_10 rfl ?_
  refine j_istore (pc' := 13) (lv' := [(4, .int 0), (3, .int v3), (0, .ref (g.2.1 7)), (1, .int p1), (2, .int p2)]) hκ (Nat.le_of_ble_eq_true rfl) rfl dX8_takeOthers_11 rfl ?_
  obtain ⟨n, h⟩ := h
  refine j_sub [2, 3, 4, 1, 0] rfl ?_
  refine lb_Tree_takeOthers_13 hκ hR ?_ n _ _ _ _ _  h
  intro X18  h
  exact hR _ _ _ dX8_takeOthers_95 h
theorem c_Tree_takeOthers {g : Gx} (hg : Dg g) {X M : ST} {p1 : Int32} {p2 : Int32} {post : ST → Prop} (h : wp_Tree_takeOthers X p1 p2 post) (l : Launch) : Met l yX8_takeOthers wq_X8_takeOthers rm_Tree_takeOthers (va_Pc [.ref (g.2.1 7), .int p1, .int p2] (PU g X M)) (va_Qv post (fun Y t => va_P g.1 vwCl (ww g Y M) t.heap) (wA g)) 0 0 (wA g) :=
  met_xv hg (by decide) rfl [.ref (g.2.1 7), .int p1, .int p2] rfl (Nat.le_of_ble_eq_true rfl) (fun κ hκ hR => lb_Tree_takeOthers hκ hR h) l
theorem wm_34_0 : Cond.methodLink RX8 98 yX8_takeOthers ∈ wAll := inr_34 (List.mem_of_getElem? (i := 0) rfl)
theorem wm_34_1 : Cond.instanceMethod yX8_takeOthers ∈ wAll := inr_34 (List.mem_of_getElem? (i := 1) rfl)
theorem wm_34_2 : Cond.selects RX8 yX8_takeOthers yX8_takeOthers ∈ wAll := inr_34 (List.mem_of_getElem? (i := 2) rfl)
theorem wm_34_3 : Cond.code yX8_takeOthers cX8_takeOthers 7 none ∈ wAll := inr_34 (List.mem_of_getElem? (i := 3) rfl)
theorem hqV_X8_takeOthers : yX8_takeOthers.cls = RX8 ∧ yX8_takeOthers.cls ≠ "java/lang/invoke/MethodHandle" ∧ yX8_takeOthers.cls ≠ "java/lang/invoke/VarHandle" ∧ (parseMethodDescriptor yX8_takeOthers.desc).map (fun d => d.parameters.length) = some 2 := by decide +kernel
abbrev rm_Tree_takeOfFirst : Room := { frames := 2, cells := 0, slots := 0, locals := 45 }
def wp_Tree_takeOfFirst_2_s (K60 : ST → Prop) (post : ST → Prop) (rec : ST → Int32 → Int32 → Int32 → Prop) (X : ST) (l1 : Int32) (l2 : Int32) (l3 : Int32) : Prop :=
  ((x_Tree_pairs X) ≤ l3 → (K60 X)) ∧ (¬ (x_Tree_pairs X) ≤ l3 → ((2 ≤ (x_Tree_takenOfFirst X) → (K60 X)) ∧ (¬ 2 ≤ (x_Tree_takenOfFirst X) → (wp_Tree_pairAt X l3 (fun r2 X1 => wp_LR_lesserOf X1 r2 (fun r4 X3 => (¬ r4 = l1 → (rec X3 l1 l2 (l3 + 1))) ∧ (r4 = l1 → (wp_Tree_mayTake X3 l3 l2 (fun r6 X5 => (r6 = 0 → (rec X5 l1 l2 (l3 + 1))) ∧ (¬ r6 = 0 → (wp_Tree_take X5 l3 (fun X7 => ∀ X9 : ST, X9 = xs_Tree_takenOfFirst X7 ((x_Tree_takenOfFirst X7) + 1) → rec X9 l1 l2 (l3 + 1)))))))))))))
def wp_Tree_takeOfFirst_2 (K60 : ST → Prop) (post : ST → Prop) : Nat → ST → Int32 → Int32 → Int32 → Prop
  | 0 => fun _ _ _ _ => False
  | n + 1 => wp_Tree_takeOfFirst_2_s K60 post (wp_Tree_takeOfFirst_2 K60 post n)
set_option maxHeartbeats 4000000 in
set_option maxRecDepth 100000 in
theorem lb_Tree_takeOfFirst_2 {κ : Cx} {g : Gx} {M : ST} (hκ : CF κ g RX8 cX8_takeOfFirst wq_X8_takeOfFirst 4 rm_Tree_takeOfFirst) {post : ST → Prop} (hR : RtxV κ g 4 cX8_takeOfFirst M post) {K60 : ST → Prop} (hK60 : ∀ (X : ST), K60 X → Jw κ g 4 X M [] 60 []) : ∀ (n : Nat) (X : ST) (l1 : Int32) (l2 : Int32) (l3 : Int32), wp_Tree_takeOfFirst_2 K60 post n X l1 l2 l3 → Jw κ g 4 X M [(0, .ref (g.2.1 7)), (1, .int l1), (2, .int l2), (3, .int l3)] 2 [] := by
  intro n
  induction n with
  | zero =>
    intro X l1 l2 l3  h
    exact h.elim
  | succ n ih =>
    intro X l1 l2 l3  h
    have h : wp_Tree_takeOfFirst_2_s K60 post (wp_Tree_takeOfFirst_2 K60 post n) X l1 l2 l3 := h
    unfold wp_Tree_takeOfFirst_2_s at h
    refine j_iload_n (pc' := 3) hκ 3 rfl rfl dX8_takeOfFirst_2 rfl ?_
    refine j_aload_n (pc' := 4) hκ 0 rfl rfl dX8_takeOfFirst_3 rfl ?_
    refine jg_7_5 (pc' := 7) hκ (mi inlX8) (fl_in hκ (mc wm_6_10)) dX8_takeOfFirst_4 rfl ?_
    refine j_icmp_ge (tgt := 60) (pc' := 10) hκ dX8_takeOfFirst_7 (by decide) rfl (fun c => ?_) (fun c => ?_)
    · replace h := h.1 c
      refine j_sub [] rfl ?_
      exact hK60 _  h
    · replace h := h.2 c
      refine j_aload_n (pc' := 11) hκ 0 rfl rfl dX8_takeOfFirst_10 rfl ?_
      refine jg_7_7 (pc' := 14) hκ (mi inlX8) (fl_in hκ (mc wm_6_12)) dX8_takeOfFirst_11 rfl ?_
      refine j_iconst (pc' := 15) (v := 2) hκ (by decide) dX8_takeOfFirst_14 rfl ?_
      refine j_icmp_ge (tgt := 60) (pc' := 18) hκ dX8_takeOfFirst_15 (by decide) rfl (fun c => ?_) (fun c => ?_)
      · replace h := h.1 c
        refine j_sub [] rfl ?_
        exact hK60 _  h
      · replace h := h.2 c
        refine j_aload_n (pc' := 19) hκ 0 rfl rfl dX8_takeOfFirst_18 rfl ?_
        refine j_iload_n (pc' := 20) hκ 3 rfl rfl dX8_takeOfFirst_19 rfl ?_
        refine jx_callVi (pc' := 23) hκ (c_Tree_pairAt (dg hκ) h) rfl rfl rfl (gV wm_34_5 wm_34_6 wm_34_7 wm_2_15 wm_34_8) hqV_X8_pairAt ⟨Nat.le_of_ble_eq_true rfl, Nat.le_of_ble_eq_true rfl⟩ (wg_7 g _ _) rfl rfl rfl (Nat.le_of_ble_eq_true rfl) dX8_takeOfFirst_20 rfl (fun r2 X1 h => ?_)
        refine jx_callNi (pc' := 26) hκ (c_LR_lesserOf (dg hκ) h) rfl rfl rfl (gN wm_34_11) 13 rfl (mc wm_1_2) (mc wm_34_10) hqS_X9_lesserOf ⟨Nat.le_of_ble_eq_true rfl, Nat.le_of_ble_eq_true rfl⟩ rfl rfl (Nat.le_of_ble_eq_true rfl) dX8_takeOfFirst_23 rfl (fun r4 X3 h => ?_)
        refine j_iload_n (pc' := 27) hκ 1 rfl rfl dX8_takeOfFirst_26 rfl ?_
        refine j_icmp_ne (tgt := 54) (pc' := 30) hκ dX8_takeOfFirst_27 (by decide) rfl (fun c => ?_) (fun c => ?_)
        · replace h := h.1 c
          refine j_iinc (pc' := 57) (v := l3 + 1) (lv' := [(3, .int (l3 + 1)), (0, .ref (g.2.1 7)), (1, .int l1), (2, .int l2)]) hκ 3 rfl rfl (Nat.le_of_ble_eq_true rfl) rfl dX8_takeOfFirst_54 rfl ?_
          refine j_goto (pc' := 2) hκ (by decide) dX8_takeOfFirst_57 ?_
          refine j_sub [1, 2, 3, 0] rfl ?_
          exact ih _ _ _ _  h
        · replace h := h.2 c
          refine j_aload_n (pc' := 31) hκ 0 rfl rfl dX8_takeOfFirst_30 rfl ?_
          refine j_iload_n (pc' := 32) hκ 3 rfl rfl dX8_takeOfFirst_31 rfl ?_
          refine j_iload_n (pc' := 33) hκ 2 rfl rfl dX8_takeOfFirst_32 rfl ?_
          refine jx_callVi (pc' := 36) hκ (c_Tree_mayTake (dg hκ) h) rfl rfl rfl (gV wm_34_14 wm_34_15 wm_34_16 wm_2_15 wm_34_17) hqV_X8_mayTake ⟨Nat.le_of_ble_eq_true rfl, Nat.le_of_ble_eq_true rfl⟩ (wg_7 g _ _) rfl rfl rfl (Nat.le_of_ble_eq_true rfl) dX8_takeOfFirst_33 rfl (fun r6 X5 h => ?_)
          refine j_if_eq (tgt := 54) (pc' := 39) hκ dX8_takeOfFirst_36 (by decide) rfl (fun c => ?_) (fun c => ?_)
          · replace h := h.1 c
            refine j_iinc (pc' := 57) (v := l3 + 1) (lv' := [(3, .int (l3 + 1)), (0, .ref (g.2.1 7)), (1, .int l1), (2, .int l2)]) hκ 3 rfl rfl (Nat.le_of_ble_eq_true rfl) rfl dX8_takeOfFirst_54 rfl ?_
            refine j_goto (pc' := 2) hκ (by decide) dX8_takeOfFirst_57 ?_
            refine j_sub [1, 2, 3, 0] rfl ?_
            exact ih _ _ _ _  h
          · replace h := h.2 c
            refine j_aload_n (pc' := 40) hκ 0 rfl rfl dX8_takeOfFirst_39 rfl ?_
            refine j_iload_n (pc' := 41) hκ 3 rfl rfl dX8_takeOfFirst_40 rfl ?_
            refine jx_callVv (pc' := 44) hκ (c_Tree_take (dg hκ) h) rfl rfl rfl (gV wm_34_22 wm_34_23 wm_35_0 wm_2_15 wm_35_1) hqV_X8_take ⟨Nat.le_of_ble_eq_true rfl, Nat.le_of_ble_eq_true rfl⟩ (wg_7 g _ _) rfl rfl rfl (Nat.le_of_ble_eq_true rfl) dX8_takeOfFirst_41 rfl (fun X7 h => ?_)
            refine j_aload_n (pc' := 45) hκ 0 rfl rfl dX8_takeOfFirst_44 rfl ?_
            refine j_dup (pc' := 46) hκ rfl dX8_takeOfFirst_45 rfl ?_
            refine jg_7_7 (pc' := 49) hκ (mi inlX8) (fl_in hκ (mc wm_6_12)) dX8_takeOfFirst_46 rfl ?_
            refine j_iconst (pc' := 50) (v := 1) hκ (by decide) dX8_takeOfFirst_49 rfl ?_
            refine j_iadd (pc' := 51) hκ dX8_takeOfFirst_50 rfl ?_
            refine jp_7_7 (pc' := 54) hκ (mi inlX8) (fl_in hκ (mc wm_6_12)) dX8_takeOfFirst_51 rfl ?_
            refine j_nmX (fun X9 eX9 => ?_)
            replace h := h X9 eX9
            refine j_iinc (pc' := 57) (v := l3 + 1) (lv' := [(3, .int (l3 + 1)), (0, .ref (g.2.1 7)), (1, .int l1), (2, .int l2)]) hκ 3 rfl rfl (Nat.le_of_ble_eq_true rfl) rfl dX8_takeOfFirst_54 rfl ?_
            refine j_goto (pc' := 2) hκ (by decide) dX8_takeOfFirst_57 ?_
            refine j_sub [1, 2, 3, 0] rfl ?_
            exact ih _ _ _ _  h
def wp_Tree_takeOfFirst (X : ST) (p1 : Int32) (p2 : Int32) (post : ST → Prop) : Prop :=
  ∃ n, wp_Tree_takeOfFirst_2 (fun X10 => post X10) post n X p1 p2 0
set_option maxHeartbeats 4000000 in
set_option maxRecDepth 100000 in
theorem lb_Tree_takeOfFirst {κ : Cx} {g : Gx} {M : ST} (hκ : CF κ g RX8 cX8_takeOfFirst wq_X8_takeOfFirst 4 rm_Tree_takeOfFirst) {post : ST → Prop} (hR : RtxV κ g 4 cX8_takeOfFirst M post) {X : ST} {p1 : Int32} {p2 : Int32} (h : wp_Tree_takeOfFirst X p1 p2 post) : Jw κ g 4 X M [(0, .ref (g.2.1 7)), (1, .int p1), (2, .int p2)] 0 [] := by
  unfold wp_Tree_takeOfFirst at h
  refine j_iconst (pc' := 1) (v := 0) hκ (by decide) dX8_takeOfFirst_0 rfl ?_
  refine j_istore_n (pc' := 2) (lv' := [(3, .int 0), (0, .ref (g.2.1 7)), (1, .int p1), (2, .int p2)]) hκ (Nat.le_of_ble_eq_true rfl) rfl rfl dX8_takeOfFirst_1 rfl ?_
  obtain ⟨n, h⟩ := h
  refine j_sub [1, 2, 3, 0] rfl ?_
  refine lb_Tree_takeOfFirst_2 hκ hR ?_ n _ _ _ _  h
  intro X10  h
  exact hR _ _ _ dX8_takeOfFirst_60 h
theorem c_Tree_takeOfFirst {g : Gx} (hg : Dg g) {X M : ST} {p1 : Int32} {p2 : Int32} {post : ST → Prop} (h : wp_Tree_takeOfFirst X p1 p2 post) (l : Launch) : Met l yX8_takeOfFirst wq_X8_takeOfFirst rm_Tree_takeOfFirst (va_Pc [.ref (g.2.1 7), .int p1, .int p2] (PU g X M)) (va_Qv post (fun Y t => va_P g.1 vwCl (ww g Y M) t.heap) (wA g)) 0 0 (wA g) :=
  met_xv hg (by decide) rfl [.ref (g.2.1 7), .int p1, .int p2] rfl (Nat.le_of_ble_eq_true rfl) (fun κ hκ hR => lb_Tree_takeOfFirst hκ hR h) l
theorem wm_35_2 : Cond.methodLink RX8 102 yX8_takeOfFirst ∈ wAll := inr_35 (List.mem_of_getElem? (i := 2) rfl)
theorem wm_35_3 : Cond.instanceMethod yX8_takeOfFirst ∈ wAll := inr_35 (List.mem_of_getElem? (i := 3) rfl)
theorem wm_35_4 : Cond.selects RX8 yX8_takeOfFirst yX8_takeOfFirst ∈ wAll := inr_35 (List.mem_of_getElem? (i := 4) rfl)
theorem wm_35_5 : Cond.code yX8_takeOfFirst cX8_takeOfFirst 4 none ∈ wAll := inr_35 (List.mem_of_getElem? (i := 5) rfl)
theorem hqV_X8_takeOfFirst : yX8_takeOfFirst.cls = RX8 ∧ yX8_takeOfFirst.cls ≠ "java/lang/invoke/MethodHandle" ∧ yX8_takeOfFirst.cls ≠ "java/lang/invoke/VarHandle" ∧ (parseMethodDescriptor yX8_takeOfFirst.desc).map (fun d => d.parameters.length) = some 2 := by decide +kernel
abbrev rm_Tree_grow : Room := { frames := 3, cells := 0, slots := 0, locals := 71 }
def wp_Tree_grow_17_s (K38 : ST → Prop) (post : ST → Prop) (rec : ST → Int32 → Prop) (X : ST) (l1 : Int32) : Prop :=
  (12 ≤ l1 → (K38 X)) ∧ (¬ 12 ≤ l1 → (vp_in l1 12 ∧ (∀ X4 : ST, X4 = xs_Tree_hung X (upd (x_Tree_hung X) l1.toNatClampNeg ((1 : Int32) <<< (l1 &&& 31))) → rec X4 (l1 + 1))))
def wp_Tree_grow_17 (K38 : ST → Prop) (post : ST → Prop) : Nat → ST → Int32 → Prop
  | 0 => fun _ _ => False
  | n + 1 => wp_Tree_grow_17_s K38 post (wp_Tree_grow_17 K38 post n)
set_option maxHeartbeats 4000000 in
set_option maxRecDepth 100000 in
theorem lb_Tree_grow_17 {κ : Cx} {g : Gx} {M : ST} (hκ : CF κ g RX8 cX8_grow wq_X8_grow 2 rm_Tree_grow) {post : ST → Prop} (hR : RtxV κ g 2 cX8_grow M post) {K38 : ST → Prop} (hK38 : ∀ (X : ST), K38 X → Jw κ g 2 X M [(0, .ref (g.2.1 7))] 38 []) : ∀ (n : Nat) (X : ST) (l1 : Int32), wp_Tree_grow_17 K38 post n X l1 → Jw κ g 2 X M [(0, .ref (g.2.1 7)), (1, .int l1)] 17 [] := by
  intro n
  induction n with
  | zero =>
    intro X l1  h
    exact h.elim
  | succ n ih =>
    intro X l1  h
    have h : wp_Tree_grow_17_s K38 post (wp_Tree_grow_17 K38 post n) X l1 := h
    unfold wp_Tree_grow_17_s at h
    refine j_iload_n (pc' := 18) hκ 1 rfl rfl dX8_grow_17 rfl ?_
    refine j_bipush (pc' := 20) (v := 12) hκ (by decide) dX8_grow_18 rfl ?_
    refine j_icmp_ge (tgt := 38) (pc' := 23) hκ dX8_grow_20 (by decide) rfl (fun c => ?_) (fun c => ?_)
    · replace h := h.1 c
      refine j_sub [0] rfl ?_
      exact hK38 _  h
    · replace h := h.2 c
      refine j_aload_n (pc' := 24) hκ 0 rfl rfl dX8_grow_23 rfl ?_
      refine jg_7_4 (pc' := 27) hκ (mi inlX8) (fl_in hκ (mc wm_6_9)) dX8_grow_24 rfl ?_
      refine j_iload_n (pc' := 28) hκ 1 rfl rfl dX8_grow_27 rfl ?_
      refine j_iconst (pc' := 29) (v := 1) hκ (by decide) dX8_grow_28 rfl ?_
      refine j_iload_n (pc' := 30) hκ 1 rfl rfl dX8_grow_29 rfl ?_
      refine j_ishl (pc' := 31) hκ dX8_grow_30 rfl ?_
      refine jx_iast (pc' := 32) hκ (ah_40 g) h.1 dX8_grow_31 rfl ?_
      replace h := h.2
      refine j_nmX (fun X4 eX4 => ?_)
      replace h := h X4 eX4
      refine j_iinc (pc' := 35) (v := l1 + 1) (lv' := [(1, .int (l1 + 1)), (0, .ref (g.2.1 7))]) hκ 1 rfl rfl (Nat.le_of_ble_eq_true rfl) rfl dX8_grow_32 rfl ?_
      refine j_goto (pc' := 17) hκ (by decide) dX8_grow_35 ?_
      refine j_sub [1, 0] rfl ?_
      exact ih _ _  h
def wp_Tree_grow (X : ST) (post : ST → Prop) : Prop :=
  ∀ X1 : ST, X1 = xs_Tree_takenCount X 0 → ∀ X2 : ST, X2 = xs_Tree_takenOfFirst X1 0 → ∀ X3 : ST, X3 = xs_Tree_sum X2 0 → ∃ n, wp_Tree_grow_17 (fun X5 => wp_Lamps_firstLive X5 (fun r7 X6 => wp_Tree_takeOthers X6 r7 1 (fun X8 => wp_Tree_takeOthers X8 r7 0 (fun X10 => wp_Tree_takeOfFirst X10 r7 1 (fun X12 => wp_Tree_takeOfFirst X12 r7 0 (fun X14 => post X14)))))) post n X3 0
set_option maxHeartbeats 4000000 in
set_option maxRecDepth 100000 in
theorem lb_Tree_grow {κ : Cx} {g : Gx} {M : ST} (hκ : CF κ g RX8 cX8_grow wq_X8_grow 2 rm_Tree_grow) {post : ST → Prop} (hR : RtxV κ g 2 cX8_grow M post) {X : ST} (h : wp_Tree_grow X post) : Jw κ g 2 X M [(0, .ref (g.2.1 7))] 0 [] := by
  unfold wp_Tree_grow at h
  refine j_aload_n (pc' := 1) hκ 0 rfl rfl dX8_grow_0 rfl ?_
  refine j_iconst (pc' := 2) (v := 0) hκ (by decide) dX8_grow_1 rfl ?_
  refine jp_7_6 (pc' := 5) hκ (mi inlX8) (fl_in hκ (mc wm_6_11)) dX8_grow_2 rfl ?_
  refine j_nmX (fun X1 eX1 => ?_)
  replace h := h X1 eX1
  refine j_aload_n (pc' := 6) hκ 0 rfl rfl dX8_grow_5 rfl ?_
  refine j_iconst (pc' := 7) (v := 0) hκ (by decide) dX8_grow_6 rfl ?_
  refine jp_7_7 (pc' := 10) hκ (mi inlX8) (fl_in hκ (mc wm_6_12)) dX8_grow_7 rfl ?_
  refine j_nmX (fun X2 eX2 => ?_)
  replace h := h X2 eX2
  refine j_aload_n (pc' := 11) hκ 0 rfl rfl dX8_grow_10 rfl ?_
  refine j_lconst (pc' := 12) (v := 0) hκ (by decide) dX8_grow_11 rfl ?_
  refine jp_7_8 (pc' := 15) hκ (mi inlX8) (fl_in hκ (mc wm_6_13)) dX8_grow_12 rfl ?_
  refine j_nmX (fun X3 eX3 => ?_)
  replace h := h X3 eX3
  refine j_iconst (pc' := 16) (v := 0) hκ (by decide) dX8_grow_15 rfl ?_
  refine j_istore_n (pc' := 17) (lv' := [(1, .int 0), (0, .ref (g.2.1 7))]) hκ (Nat.le_of_ble_eq_true rfl) rfl rfl dX8_grow_16 rfl ?_
  obtain ⟨n, h⟩ := h
  refine j_sub [1, 0] rfl ?_
  refine lb_Tree_grow_17 hκ hR ?_ n _ _  h
  intro X5  h
  refine j_aload_n (pc' := 39) hκ 0 rfl rfl dX8_grow_38 rfl ?_
  refine jg_7_0 (pc' := 42) hκ (mi inlX8) (fl_in hκ (mc wm_6_14)) dX8_grow_39 rfl ?_
  refine jx_callVi (pc' := 45) hκ (c_Lamps_firstLive (dg hκ) h) rfl rfl rfl (gV wm_33_20 wm_33_21 wm_33_22 wm_1_23 wm_33_23) hqV_X2_firstLive ⟨Nat.le_of_ble_eq_true rfl, Nat.le_of_ble_eq_true rfl⟩ (wg_3 g _ _) rfl rfl rfl (Nat.le_of_ble_eq_true rfl) dX8_grow_42 rfl (fun r7 X6 h => ?_)
  refine j_istore_n (pc' := 46) (lv' := [(1, .int r7), (0, .ref (g.2.1 7))]) hκ (Nat.le_of_ble_eq_true rfl) rfl rfl dX8_grow_45 rfl ?_
  refine j_aload_n (pc' := 47) hκ 1 rfl rfl dX8_grow_46 rfl ?_
  refine j_iload_n (pc' := 48) hκ 0 rfl rfl dX8_grow_47 rfl ?_
  refine j_iconst (pc' := 49) (v := 1) hκ (by decide) dX8_grow_48 rfl ?_
  refine jx_callVv (pc' := 52) hκ (c_Tree_takeOthers (dg hκ) h) rfl rfl rfl (gV wm_34_0 wm_34_1 wm_34_2 wm_2_15 wm_34_3) hqV_X8_takeOthers ⟨Nat.le_of_ble_eq_true rfl, Nat.le_of_ble_eq_true rfl⟩ (wg_7 g _ _) rfl rfl rfl (Nat.le_of_ble_eq_true rfl) dX8_grow_49 rfl (fun X8 h => ?_)
  refine j_aload_n (pc' := 53) hκ 1 rfl rfl dX8_grow_52 rfl ?_
  refine j_iload_n (pc' := 54) hκ 0 rfl rfl dX8_grow_53 rfl ?_
  refine j_iconst (pc' := 55) (v := 0) hκ (by decide) dX8_grow_54 rfl ?_
  refine jx_callVv (pc' := 58) hκ (c_Tree_takeOthers (dg hκ) h) rfl rfl rfl (gV wm_34_0 wm_34_1 wm_34_2 wm_2_15 wm_34_3) hqV_X8_takeOthers ⟨Nat.le_of_ble_eq_true rfl, Nat.le_of_ble_eq_true rfl⟩ (wg_7 g _ _) rfl rfl rfl (Nat.le_of_ble_eq_true rfl) dX8_grow_55 rfl (fun X10 h => ?_)
  refine j_aload_n (pc' := 59) hκ 1 rfl rfl dX8_grow_58 rfl ?_
  refine j_iload_n (pc' := 60) hκ 0 rfl rfl dX8_grow_59 rfl ?_
  refine j_iconst (pc' := 61) (v := 1) hκ (by decide) dX8_grow_60 rfl ?_
  refine jx_callVv (pc' := 64) hκ (c_Tree_takeOfFirst (dg hκ) h) rfl rfl rfl (gV wm_35_2 wm_35_3 wm_35_4 wm_2_15 wm_35_5) hqV_X8_takeOfFirst ⟨Nat.le_of_ble_eq_true rfl, Nat.le_of_ble_eq_true rfl⟩ (wg_7 g _ _) rfl rfl rfl (Nat.le_of_ble_eq_true rfl) dX8_grow_61 rfl (fun X12 h => ?_)
  refine j_aload_n (pc' := 65) hκ 1 rfl rfl dX8_grow_64 rfl ?_
  refine j_iload_n (pc' := 66) hκ 0 rfl rfl dX8_grow_65 rfl ?_
  refine j_iconst (pc' := 67) (v := 0) hκ (by decide) dX8_grow_66 rfl ?_
  refine jx_callVv (pc' := 70) hκ (c_Tree_takeOfFirst (dg hκ) h) rfl rfl rfl (gV wm_35_2 wm_35_3 wm_35_4 wm_2_15 wm_35_5) hqV_X8_takeOfFirst ⟨Nat.le_of_ble_eq_true rfl, Nat.le_of_ble_eq_true rfl⟩ (wg_7 g _ _) rfl rfl rfl (Nat.le_of_ble_eq_true rfl) dX8_grow_67 rfl (fun X14 h => ?_)
  exact hR _ _ _ dX8_grow_70 h
theorem c_Tree_grow {g : Gx} (hg : Dg g) {X M : ST} {post : ST → Prop} (h : wp_Tree_grow X post) (l : Launch) : Met l yX8_grow wq_X8_grow rm_Tree_grow (va_Pc [.ref (g.2.1 7)] (PU g X M)) (va_Qv post (fun Y t => va_P g.1 vwCl (ww g Y M) t.heap) (wA g)) 0 0 (wA g) :=
  met_xv hg (by decide) rfl [.ref (g.2.1 7)] rfl (Nat.le_of_ble_eq_true rfl) (fun κ hκ hR => lb_Tree_grow hκ hR h) l
