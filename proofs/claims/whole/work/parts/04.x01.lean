theorem wm_15_8 : Cond.methodLink RX7 52 yX7_shorten ∈ wAll := inr_15 (List.mem_of_getElem? (i := 8) rfl)
theorem wm_15_9 : Cond.instanceMethod yX7_shorten ∈ wAll := inr_15 (List.mem_of_getElem? (i := 9) rfl)
theorem wm_15_10 : Cond.selects RX7 yX7_shorten yX7_shorten ∈ wAll := inr_15 (List.mem_of_getElem? (i := 10) rfl)
theorem wm_15_11 : Cond.code yX7_shorten cX7_shorten 5 (some .boolean) ∈ wAll := inr_15 (List.mem_of_getElem? (i := 11) rfl)
theorem hqV_X7_shorten : yX7_shorten.cls = RX7 ∧ yX7_shorten.cls ≠ "java/lang/invoke/MethodHandle" ∧ yX7_shorten.cls ≠ "java/lang/invoke/VarHandle" ∧ (parseMethodDescriptor yX7_shorten.desc).map (fun d => d.parameters.length) = some 2 := by decide +kernel
abbrev rm_Town_reckon : Room := { frames := 1, cells := 0, slots := 0, locals := 24 }
def wp_Town_reckon_31_s (k1 n1 : Nat) (K68 : ST → Int32 → Int32 → Prop) (post : ST → Prop) (rec : ST → Int32 → Int32 → Int32 → Prop) (X : ST) (l3 : Int32) (l4 : Int32) (l5 : Int32) : Prop :=
  ((x_Town_count X) ≤ l5 → (K68 X l3 l4)) ∧ (¬ (x_Town_count X) ≤ l5 → (vp_in l5 100 ∧ (((x_Town_isOpen X l5.toNatClampNeg) = 0 → (rec X l3 l4 (l5 + 1))) ∧ (¬ (x_Town_isOpen X l5.toNatClampNeg) = 0 → (wp_Town_shorten X k1 n1 l5 (fun r5 X4 => (r5 = 0 → (rec X4 l3 l4 (l5 + 1))) ∧ (¬ r5 = 0 → (rec X4 1 l4 (l5 + 1)))))))))
def wp_Town_reckon_31 (k1 n1 : Nat) (K68 : ST → Int32 → Int32 → Prop) (post : ST → Prop) : Nat → ST → Int32 → Int32 → Int32 → Prop
  | 0 => fun _ _ _ _ => False
  | n + 1 => wp_Town_reckon_31_s k1 n1 K68 post (wp_Town_reckon_31 k1 n1 K68 post n)
set_option maxHeartbeats 4000000 in
set_option maxRecDepth 100000 in
theorem lb_Town_reckon_31 {κ : Cx} {g : Gx} {M : ST} (hκ : CF κ g RX7 cX7_reckon wq_X7_reckon 6 rm_Town_reckon) {post : ST → Prop} (hR : RtxV κ g 6 cX7_reckon M post) {a1 q1 k1 n1 : Nat} (hh1 : ahI g q1 k1 n1 a1) {K68 : ST → Int32 → Int32 → Prop} (hK68 : ∀ (X : ST) (l3 : Int32) (l4 : Int32), K68 X l3 l4 → Jw κ g 6 X M [(0, .ref (g.2.1 2)), (1, .ref a1), (3, .int l3), (4, .int l4)] 68 []) : ∀ (n : Nat) (X : ST) (l3 : Int32) (l4 : Int32) (l5 : Int32), wp_Town_reckon_31 k1 n1 K68 post n X l3 l4 l5 → Jw κ g 6 X M [(0, .ref (g.2.1 2)), (1, .ref a1), (3, .int l3), (4, .int l4), (5, .int l5)] 31 [] := by
  intro n
  induction n with
  | zero =>
    intro X l3 l4 l5  h
    exact h.elim
  | succ n ih =>
    intro X l3 l4 l5  h
    have h : wp_Town_reckon_31_s k1 n1 K68 post (wp_Town_reckon_31 k1 n1 K68 post n) X l3 l4 l5 := h
    unfold wp_Town_reckon_31_s at h
    refine j_iload (pc' := 33) hκ 4 rfl dX7_reckon_31 rfl ?_
    refine j_aload_n (pc' := 34) hκ 0 rfl rfl dX7_reckon_33 rfl ?_
    refine jg_2_6 (pc' := 37) hκ (mi inlX7) (fl_in hκ (mc wm_4_3)) dX7_reckon_34 rfl ?_
    refine j_icmp_ge (tgt := 68) (pc' := 40) hκ dX7_reckon_37 (by decide) rfl (fun c => ?_) (fun c => ?_)
    · replace h := h.1 c
      refine j_sub [0, 1, 2, 3] rfl ?_
      exact hK68 _ _ _  h
    · replace h := h.2 c
      refine j_aload_n (pc' := 41) hκ 0 rfl rfl dX7_reckon_40 rfl ?_
      refine jg_2_3 (pc' := 44) hκ (mi inlX7) (fl_in hκ (mc wm_3_23)) dX7_reckon_41 rfl ?_
      refine j_iload (pc' := 46) hκ 4 rfl dX7_reckon_44 rfl ?_
      refine jx_zald (pc' := 47) hκ (ah_18 g) h.1 dX7_reckon_46 rfl ?_
      replace h := h.2
      refine j_if_eq (tgt := 62) (pc' := 50) hκ dX7_reckon_47 (by decide) rfl (fun c => ?_) (fun c => ?_)
      · replace h := h.1 c
        refine j_iinc (pc' := 65) (v := l5 + 1) (lv' := [(5, .int (l5 + 1)), (0, .ref (g.2.1 2)), (1, .ref a1), (3, .int l3), (4, .int l4)]) hκ 4 rfl rfl (Nat.le_of_ble_eq_true rfl) rfl dX7_reckon_62 rfl ?_
        refine j_goto (pc' := 31) hκ (by decide) dX7_reckon_65 ?_
        refine j_sub [1, 2, 3, 4, 0] rfl ?_
        exact ih _ _ _ _  h
      · replace h := h.2 c
        refine j_aload_n (pc' := 51) hκ 0 rfl rfl dX7_reckon_50 rfl ?_
        refine j_aload_n (pc' := 52) hκ 1 rfl rfl dX7_reckon_51 rfl ?_
        refine j_iload (pc' := 54) hκ 4 rfl dX7_reckon_52 rfl ?_
        refine jx_callVi (pc' := 57) hκ (c_Town_shorten (dg hκ) hh1 h) rfl rfl rfl (gV wm_15_8 wm_15_9 wm_15_10 wm_1_19 wm_15_11) hqV_X7_shorten ⟨Nat.le_of_ble_eq_true rfl, Nat.le_of_ble_eq_true rfl⟩ (wg_2 g _ _) rfl rfl rfl (Nat.le_of_ble_eq_true rfl) dX7_reckon_54 rfl (fun r5 X4 h => ?_)
        refine j_if_eq (tgt := 62) (pc' := 60) hκ dX7_reckon_57 (by decide) rfl (fun c => ?_) (fun c => ?_)
        · replace h := h.1 c
          refine j_iinc (pc' := 65) (v := l5 + 1) (lv' := [(5, .int (l5 + 1)), (0, .ref (g.2.1 2)), (1, .ref a1), (3, .int l3), (4, .int l4)]) hκ 4 rfl rfl (Nat.le_of_ble_eq_true rfl) rfl dX7_reckon_62 rfl ?_
          refine j_goto (pc' := 31) hκ (by decide) dX7_reckon_65 ?_
          refine j_sub [1, 2, 3, 4, 0] rfl ?_
          exact ih _ _ _ _  h
        · replace h := h.2 c
          refine j_iconst (pc' := 61) (v := 1) hκ (by decide) dX7_reckon_60 rfl ?_
          refine j_istore_n (pc' := 62) (lv' := [(3, .int 1), (0, .ref (g.2.1 2)), (1, .ref a1), (4, .int l4), (5, .int l5)]) hκ (Nat.le_of_ble_eq_true rfl) rfl rfl dX7_reckon_61 rfl ?_
          refine j_iinc (pc' := 65) (v := l5 + 1) (lv' := [(5, .int (l5 + 1)), (3, .int 1), (0, .ref (g.2.1 2)), (1, .ref a1), (4, .int l4)]) hκ 4 rfl rfl (Nat.le_of_ble_eq_true rfl) rfl dX7_reckon_62 rfl ?_
          refine j_goto (pc' := 31) hκ (by decide) dX7_reckon_65 ?_
          refine j_sub [2, 3, 1, 4, 0] rfl ?_
          exact ih _ _ _ _  h
def wp_Town_reckon_15_s (k1 n1 : Nat) (K74 : ST → Prop) (post : ST → Prop) (rec : ST → Int32 → Int32 → Prop) (X : ST) (l3 : Int32) (l4 : Int32) : Prop :=
  (l3 = 0 → (K74 X)) ∧ (¬ l3 = 0 → ((40 ≤ l4 → (K74 X)) ∧ (¬ 40 ≤ l4 → (∃ n, wp_Town_reckon_31 k1 n1 (fun X6 v7 v8 => rec X6 v7 (v8 + 1)) post n X 0 l4 0))))
def wp_Town_reckon_15 (k1 n1 : Nat) (K74 : ST → Prop) (post : ST → Prop) : Nat → ST → Int32 → Int32 → Prop
  | 0 => fun _ _ _ => False
  | n + 1 => wp_Town_reckon_15_s k1 n1 K74 post (wp_Town_reckon_15 k1 n1 K74 post n)
set_option maxHeartbeats 4000000 in
set_option maxRecDepth 100000 in
theorem lb_Town_reckon_15 {κ : Cx} {g : Gx} {M : ST} (hκ : CF κ g RX7 cX7_reckon wq_X7_reckon 6 rm_Town_reckon) {post : ST → Prop} (hR : RtxV κ g 6 cX7_reckon M post) {a1 q1 k1 n1 : Nat} (hh1 : ahI g q1 k1 n1 a1) {K74 : ST → Prop} (hK74 : ∀ (X : ST), K74 X → Jw κ g 6 X M [] 74 []) : ∀ (n : Nat) (X : ST) (l3 : Int32) (l4 : Int32), wp_Town_reckon_15 k1 n1 K74 post n X l3 l4 → Jw κ g 6 X M [(0, .ref (g.2.1 2)), (1, .ref a1), (3, .int l3), (4, .int l4)] 15 [] := by
  intro n
  induction n with
  | zero =>
    intro X l3 l4  h
    exact h.elim
  | succ n ih =>
    intro X l3 l4  h
    have h : wp_Town_reckon_15_s k1 n1 K74 post (wp_Town_reckon_15 k1 n1 K74 post n) X l3 l4 := h
    unfold wp_Town_reckon_15_s at h
    refine j_iload_n (pc' := 16) hκ 2 rfl rfl dX7_reckon_15 rfl ?_
    refine j_if_eq (tgt := 74) (pc' := 19) hκ dX7_reckon_16 (by decide) rfl (fun c => ?_) (fun c => ?_)
    · replace h := h.1 c
      refine j_sub [] rfl ?_
      exact hK74 _  h
    · replace h := h.2 c
      refine j_iload (pc' := 21) hκ 3 rfl dX7_reckon_19 rfl ?_
      refine j_bipush (pc' := 23) (v := 40) hκ (by decide) dX7_reckon_21 rfl ?_
      refine j_icmp_ge (tgt := 74) (pc' := 26) hκ dX7_reckon_23 (by decide) rfl (fun c => ?_) (fun c => ?_)
      · replace h := h.1 c
        refine j_sub [] rfl ?_
        exact hK74 _  h
      · replace h := h.2 c
        refine j_iconst (pc' := 27) (v := 0) hκ (by decide) dX7_reckon_26 rfl ?_
        refine j_istore_n (pc' := 28) (lv' := [(3, .int 0), (0, .ref (g.2.1 2)), (1, .ref a1), (4, .int l4)]) hκ (Nat.le_of_ble_eq_true rfl) rfl rfl dX7_reckon_27 rfl ?_
        refine j_iconst (pc' := 29) (v := 0) hκ (by decide) dX7_reckon_28 rfl ?_
        refine j_istore (pc' := 31) (lv' := [(5, .int 0), (3, .int 0), (0, .ref (g.2.1 2)), (1, .ref a1), (4, .int l4)]) hκ (Nat.le_of_ble_eq_true rfl) rfl dX7_reckon_29 rfl ?_
        obtain ⟨n, h⟩ := h
        refine j_sub [2, 3, 1, 4, 0] rfl ?_
        refine lb_Town_reckon_31 hκ hR hh1 ?_ n _ _ _ _  h
        intro X6 v7 v8  h
        refine j_iinc (pc' := 71) (v := v8 + 1) (lv' := [(4, .int (v8 + 1)), (0, .ref (g.2.1 2)), (1, .ref a1), (3, .int v7)]) hκ 3 rfl rfl (Nat.le_of_ble_eq_true rfl) rfl dX7_reckon_68 rfl ?_
        refine j_goto (pc' := 15) hκ (by decide) dX7_reckon_71 ?_
        refine j_sub [1, 2, 3, 0] rfl ?_
        exact ih _ _ _  h
def wp_Town_reckon (X : ST) (k1 n1 : Nat) (p2 : Int32) (post : ST → Prop) : Prop :=
  wp_arr_fillI X k1 n1 1000000 (fun X1 => vp_in p2 n1 ∧ (∀ X3 : ST, X3 = ks_sA X1 k1 (upd (X1.2.2.1 k1) p2.toNatClampNeg 0) → ∃ n, wp_Town_reckon_15 k1 n1 (fun X9 => post X9) post n X3 1 0))
set_option maxHeartbeats 4000000 in
set_option maxRecDepth 100000 in
theorem lb_Town_reckon {κ : Cx} {g : Gx} {M : ST} (hκ : CF κ g RX7 cX7_reckon wq_X7_reckon 6 rm_Town_reckon) {post : ST → Prop} (hR : RtxV κ g 6 cX7_reckon M post) {X : ST} {k1 n1 : Nat} {p2 : Int32} {a1 q1 : Nat} (hh1 : ahI g q1 k1 n1 a1) (h : wp_Town_reckon X k1 n1 p2 post) : Jw κ g 6 X M [(0, .ref (g.2.1 2)), (1, .ref a1), (2, .int p2)] 0 [] := by
  unfold wp_Town_reckon at h
  refine j_aload_n (pc' := 1) hκ 1 rfl rfl dX7_reckon_0 rfl ?_
  refine j_ldc (pc' := 3) hκ (mc wm_15_6) dX7_reckon_1 rfl ?_
  refine jx_callSv (pc' := 6) hκ (c_arr_fillI (dg hκ) hh1 h) rfl rfl rfl (gS wm_15_7 wm_3_13 wm_3_14 wm_3_15) hqS_J7_fill_53178 ⟨Nat.le_of_ble_eq_true rfl, Nat.le_of_ble_eq_true rfl⟩ rfl rfl (Nat.le_of_ble_eq_true rfl) dX7_reckon_3 rfl (fun X1 h => ?_)
  refine j_aload_n (pc' := 7) hκ 1 rfl rfl dX7_reckon_6 rfl ?_
  refine j_iload_n (pc' := 8) hκ 2 rfl rfl dX7_reckon_7 rfl ?_
  refine j_iconst (pc' := 9) (v := 0) hκ (by decide) dX7_reckon_8 rfl ?_
  refine jx_iast (pc' := 10) hκ hh1 h.1 dX7_reckon_9 rfl ?_
  replace h := h.2
  refine j_nmX (fun X3 eX3 => ?_)
  replace h := h X3 eX3
  refine j_iconst (pc' := 11) (v := 1) hκ (by decide) dX7_reckon_10 rfl ?_
  refine j_istore_n (pc' := 12) (lv' := [(3, .int 1), (0, .ref (g.2.1 2)), (1, .ref a1), (2, .int p2)]) hκ (Nat.le_of_ble_eq_true rfl) rfl rfl dX7_reckon_11 rfl ?_
  refine j_iconst (pc' := 13) (v := 0) hκ (by decide) dX7_reckon_12 rfl ?_
  refine j_istore (pc' := 15) (lv' := [(4, .int 0), (3, .int 1), (0, .ref (g.2.1 2)), (1, .ref a1), (2, .int p2)]) hκ (Nat.le_of_ble_eq_true rfl) rfl dX7_reckon_13 rfl ?_
  obtain ⟨n, h⟩ := h
  refine j_sub [2, 3, 1, 0] rfl ?_
  refine lb_Town_reckon_15 hκ hR hh1 ?_ n _ _ _  h
  intro X9  h
  exact hR _ _ _ dX7_reckon_74 h
theorem c_Town_reckon {g : Gx} (hg : Dg g) {X M : ST} {k1 n1 : Nat} {p2 : Int32} {a1 q1 : Nat} (hh1 : ahI g q1 k1 n1 a1) {post : ST → Prop} (h : wp_Town_reckon X k1 n1 p2 post) (l : Launch) : Met l yX7_reckon wq_X7_reckon rm_Town_reckon (va_Pc [.ref (g.2.1 2), .ref a1, .int p2] (PU g X M)) (va_Qv post (fun Y t => va_P g.1 vwCl (ww g Y M) t.heap) (wA g)) 0 0 (wA g) :=
  met_xv hg (by decide) rfl [.ref (g.2.1 2), .ref a1, .int p2] rfl (Nat.le_of_ble_eq_true rfl) (fun κ hκ hR => lb_Town_reckon hκ hR hh1 h) l
theorem wm_15_2 : Cond.methodLink RX7 42 yX7_reckon ∈ wAll := inr_15 (List.mem_of_getElem? (i := 2) rfl)
theorem wm_15_3 : Cond.instanceMethod yX7_reckon ∈ wAll := inr_15 (List.mem_of_getElem? (i := 3) rfl)
theorem wm_15_4 : Cond.selects RX7 yX7_reckon yX7_reckon ∈ wAll := inr_15 (List.mem_of_getElem? (i := 4) rfl)
theorem wm_15_5 : Cond.code yX7_reckon cX7_reckon 6 none ∈ wAll := inr_15 (List.mem_of_getElem? (i := 5) rfl)
theorem hqV_X7_reckon : yX7_reckon.cls = RX7 ∧ yX7_reckon.cls ≠ "java/lang/invoke/MethodHandle" ∧ yX7_reckon.cls ≠ "java/lang/invoke/VarHandle" ∧ (parseMethodDescriptor yX7_reckon.desc).map (fun d => d.parameters.length) = some 2 := by decide +kernel
abbrev rm_Town_waysFrom : Room := { frames := 2, cells := 0, slots := 0, locals := 49 }
def wp_Town_waysFrom (X : ST) (p1 : Int32) (post : Nat → ST → Prop) : Prop :=
  (¬ (((x_Town_reckoned X) >>> (p1.toInt64 &&& 63)) &&& 1) = 0 → (vp_in p1 40 ∧ (post (p1.toNatClampNeg) X))) ∧ ((((x_Town_reckoned X) >>> (p1.toInt64 &&& 63)) &&& 1) = 0 → (vp_in p1 40 ∧ (wp_Town_reckon X (p1.toNatClampNeg + 100) 40 p1 (fun X3 => ∀ X5 : ST, X5 = xs_Town_reckoned X3 ((x_Town_reckoned X3) ||| ((1 : Int64) <<< (p1.toInt64 &&& 63))) → vp_in p1 40 ∧ (post (p1.toNatClampNeg) X5)))))
set_option maxHeartbeats 4000000 in
set_option maxRecDepth 100000 in
theorem lb_Town_waysFrom {κ : Cx} {g : Gx} {M : ST} (hκ : CF κ g RX7 cX7_waysFrom wq_X7_waysFrom 2 rm_Town_waysFrom) {post : Nat → ST → Prop} (hR : RtxA κ g 2 cX7_waysFrom M post) {X : ST} {p1 : Int32} (h : wp_Town_waysFrom X p1 post) : Jw κ g 2 X M [(0, .ref (g.2.1 2)), (1, .int p1)] 0 [] := by
  unfold wp_Town_waysFrom at h
  refine j_aload_n (pc' := 1) hκ 0 rfl rfl dX7_waysFrom_0 rfl ?_
  refine jg_2_5 (pc' := 4) hκ (mi inlX7) (fl_in hκ (mc wm_4_2)) dX7_waysFrom_1 rfl ?_
  refine j_iload_n (pc' := 5) hκ 1 rfl rfl dX7_waysFrom_4 rfl ?_
  refine j_lshr (pc' := 6) hκ dX7_waysFrom_5 rfl ?_
  refine j_lconst (pc' := 7) (v := 1) hκ (by decide) dX7_waysFrom_6 rfl ?_
  refine j_land (pc' := 8) hκ dX7_waysFrom_7 rfl ?_
  refine j_lconst (pc' := 9) (v := 0) hκ (by decide) dX7_waysFrom_8 rfl ?_
  refine j_lc_ne (tgt := 36) (pc1 := 10) (pc' := 13) hκ dX7_waysFrom_9 rfl dX7_waysFrom_10 (by decide) rfl (fun c => ?_) (fun c => ?_)
  · replace h := h.1 c
    refine j_aload_n (pc' := 37) hκ 0 rfl rfl dX7_waysFrom_36 rfl ?_
    refine jg_2_4 (pc' := 40) hκ (mi inlX7) (fl_in hκ (mc wm_4_1)) dX7_waysFrom_37 rfl ?_
    refine j_iload_n (pc' := 41) hκ 1 rfl rfl dX7_waysFrom_40 rfl ?_
    refine j_aald (pc' := 42) (q := 19) (t := 3) hκ (wg_19 g _ _) rfl h.1 dX7_waysFrom_41 rfl ?_
    have hr1 : p1.toNatClampNeg < 40 := Nat.not_le.mp fun q => h.1 (Or.inr q)
    replace h := h.2
    exact hR _ _ _ _ dX7_waysFrom_42 hr1 h
  · replace h := h.2 c
    refine j_aload_n (pc' := 14) hκ 0 rfl rfl dX7_waysFrom_13 rfl ?_
    refine j_aload_n (pc' := 15) hκ 0 rfl rfl dX7_waysFrom_14 rfl ?_
    refine jg_2_4 (pc' := 18) hκ (mi inlX7) (fl_in hκ (mc wm_4_1)) dX7_waysFrom_15 rfl ?_
    refine j_iload_n (pc' := 19) hκ 1 rfl rfl dX7_waysFrom_18 rfl ?_
    refine j_aald (pc' := 20) (q := 19) (t := 3) hκ (wg_19 g _ _) rfl h.1 dX7_waysFrom_19 rfl ?_
    have hr2 : p1.toNatClampNeg < 40 := Nat.not_le.mp fun q => h.1 (Or.inr q)
    replace h := h.2
    refine j_iload_n (pc' := 21) hκ 1 rfl rfl dX7_waysFrom_20 rfl ?_
    refine jx_callVv (pc' := 24) hκ (c_Town_reckon (dg hκ) (ah_ways g hr2) h) rfl rfl rfl (gV wm_15_2 wm_15_3 wm_15_4 wm_1_19 wm_15_5) hqV_X7_reckon ⟨Nat.le_of_ble_eq_true rfl, Nat.le_of_ble_eq_true rfl⟩ (wg_2 g _ _) rfl rfl rfl (Nat.le_of_ble_eq_true rfl) dX7_waysFrom_21 rfl (fun X3 h => ?_)
    refine j_aload_n (pc' := 25) hκ 0 rfl rfl dX7_waysFrom_24 rfl ?_
    refine j_dup (pc' := 26) hκ rfl dX7_waysFrom_25 rfl ?_
    refine jg_2_5 (pc' := 29) hκ (mi inlX7) (fl_in hκ (mc wm_4_2)) dX7_waysFrom_26 rfl ?_
    refine j_lconst (pc' := 30) (v := 1) hκ (by decide) dX7_waysFrom_29 rfl ?_
    refine j_iload_n (pc' := 31) hκ 1 rfl rfl dX7_waysFrom_30 rfl ?_
    refine j_lshl (pc' := 32) hκ dX7_waysFrom_31 rfl ?_
    refine j_lor (pc' := 33) hκ dX7_waysFrom_32 rfl ?_
    refine jp_2_5 (pc' := 36) hκ (mi inlX7) (fl_in hκ (mc wm_4_2)) dX7_waysFrom_33 rfl ?_
    refine j_nmX (fun X5 eX5 => ?_)
    replace h := h X5 eX5
    refine j_aload_n (pc' := 37) hκ 0 rfl rfl dX7_waysFrom_36 rfl ?_
    refine jg_2_4 (pc' := 40) hκ (mi inlX7) (fl_in hκ (mc wm_4_1)) dX7_waysFrom_37 rfl ?_
    refine j_iload_n (pc' := 41) hκ 1 rfl rfl dX7_waysFrom_40 rfl ?_
    refine j_aald (pc' := 42) (q := 19) (t := 3) hκ (wg_19 g _ _) rfl h.1 dX7_waysFrom_41 rfl ?_
    have hr6 : p1.toNatClampNeg < 40 := Nat.not_le.mp fun q => h.1 (Or.inr q)
    replace h := h.2
    exact hR _ _ _ _ dX7_waysFrom_42 hr6 h
theorem c_Town_waysFrom {g : Gx} (hg : Dg g) {X M : ST} {p1 : Int32} {post : Nat → ST → Prop} (h : wp_Town_waysFrom X p1 post) (l : Launch) : Met l yX7_waysFrom wq_X7_waysFrom rm_Town_waysFrom (va_Pc [.ref (g.2.1 2), .int p1] (PU g X M)) (va_Qr (fun u : Nat × ST => u.1 < 40 ∧ post u.1 u.2) (fun (u : Nat × ST) a t => a = g.2.1 (u.1 + 100) ∧ va_P g.1 vwCl (ww g u.2 M) t.heap) (wA g)) 0 0 (wA g) :=
  met_xa hg (by decide) rfl [.ref (g.2.1 2), .int p1] rfl (Nat.le_of_ble_eq_true rfl) (fun κ hκ hR => lb_Town_waysFrom hκ hR h) l
theorem wm_14_22 : Cond.methodLink RX9 157 yX7_waysFrom ∈ wAll := inr_14 (List.mem_of_getElem? (i := 22) rfl)
theorem wm_14_23 : Cond.instanceMethod yX7_waysFrom ∈ wAll := inr_14 (List.mem_of_getElem? (i := 23) rfl)
theorem wm_15_0 : Cond.selects RX7 yX7_waysFrom yX7_waysFrom ∈ wAll := inr_15 (List.mem_of_getElem? (i := 0) rfl)
theorem wm_15_1 : Cond.code yX7_waysFrom cX7_waysFrom 2 (some (.array .int)) ∈ wAll := inr_15 (List.mem_of_getElem? (i := 1) rfl)
theorem hqV_X7_waysFrom : yX7_waysFrom.cls = RX7 ∧ yX7_waysFrom.cls ≠ "java/lang/invoke/MethodHandle" ∧ yX7_waysFrom.cls ≠ "java/lang/invoke/VarHandle" ∧ (parseMethodDescriptor yX7_waysFrom.desc).map (fun d => d.parameters.length) = some 1 := by decide +kernel
theorem wm_14_21 : Cond.constant RX9 161 (1000000) ∈ wAll := inr_14 (List.mem_of_getElem? (i := 21) rfl)
abbrev rm_LR_way : Room := { frames := 3, cells := 0, slots := 0, locals := 70 }
def wp_LR_way (X : ST) (p1 : Int32) (p2 : Int32) (post : Int32 → ST → Prop) : Prop :=
  wp_LR_isCrossing X p1 (fun r2 X1 => (r2 = 0 → (post (-1) X1)) ∧ (¬ r2 = 0 → (wp_LR_isCrossing X1 p2 (fun r4 X3 => (¬ r4 = 0 → (wp_Town_waysFrom X3 p1 (fun r6 X5 => vp_in p2 40 ∧ (∀ v7 : Int32, v7 = x_ways X5 r6 p2.toNatClampNeg → (¬ v7 = 1000000 → (post v7 X5)) ∧ (v7 = 1000000 → (post (-10) X5)))))) ∧ (r4 = 0 → (post (-1) X3))))))
set_option maxHeartbeats 4000000 in
set_option maxRecDepth 100000 in
theorem lb_LR_way {κ : Cx} {g : Gx} {M : ST} (hκ : CF κ g RX9 cX9_way wq_X9_way 4 rm_LR_way) {post : Int32 → ST → Prop} (hR : RtxI κ g 4 cX9_way M post) {X : ST} {p1 : Int32} {p2 : Int32} (h : wp_LR_way X p1 p2 post) : Jw κ g 4 X M [(0, .ref (g.2.1 0)), (1, .int p1), (2, .int p2)] 0 [] := by
  unfold wp_LR_way at h
  refine j_iload_n (pc' := 1) hκ 1 rfl rfl dX9_way_0 rfl ?_
  refine jx_callSi (pc' := 4) hκ (c_LR_isCrossing (dg hκ) h) rfl rfl rfl (gS wm_9_1 wm_9_2 wm_1_2 wm_9_3) hqS_X9_isCrossing ⟨Nat.le_of_ble_eq_true rfl, Nat.le_of_ble_eq_true rfl⟩ rfl rfl (Nat.le_of_ble_eq_true rfl) dX9_way_1 rfl (fun r2 X1 h => ?_)
  refine j_if_eq (tgt := 14) (pc' := 7) hκ dX9_way_4 (by decide) rfl (fun c => ?_) (fun c => ?_)
  · replace h := h.1 c
    refine j_iconst (pc' := 15) (v := (-1)) hκ (by decide) dX9_way_14 rfl ?_
    exact hR _ _ _ _ dX9_way_15 h
  · replace h := h.2 c
    refine j_iload_n (pc' := 8) hκ 2 rfl rfl dX9_way_7 rfl ?_
    refine jx_callSi (pc' := 11) hκ (c_LR_isCrossing (dg hκ) h) rfl rfl rfl (gS wm_9_1 wm_9_2 wm_1_2 wm_9_3) hqS_X9_isCrossing ⟨Nat.le_of_ble_eq_true rfl, Nat.le_of_ble_eq_true rfl⟩ rfl rfl (Nat.le_of_ble_eq_true rfl) dX9_way_8 rfl (fun r4 X3 h => ?_)
    refine j_if_ne (tgt := 16) (pc' := 14) hκ dX9_way_11 (by decide) rfl (fun c => ?_) (fun c => ?_)
    · replace h := h.1 c
      refine j_aload_n (pc' := 17) hκ 0 rfl rfl dX9_way_16 rfl ?_
      refine jg_0_1 (pc' := 20) hκ (mi inlX9) (fl_in hκ (mc wm_1_20)) dX9_way_17 rfl ?_
      refine j_iload_n (pc' := 21) hκ 1 rfl rfl dX9_way_20 rfl ?_
      refine jx_callVr (pc' := 24) hκ (c_Town_waysFrom (dg hκ) h) rfl rfl rfl (gV wm_14_22 wm_14_23 wm_15_0 wm_1_19 wm_15_1) hqV_X7_waysFrom ⟨Nat.le_of_ble_eq_true rfl, Nat.le_of_ble_eq_true rfl⟩ (wg_2 g _ _) rfl rfl rfl (Nat.le_of_ble_eq_true rfl) dX9_way_21 rfl (fun r6 X5 hr6 h => ?_)
      refine j_iload_n (pc' := 25) hκ 2 rfl rfl dX9_way_24 rfl ?_
      refine jx_iald (pc' := 26) hκ (ah_ways g hr6) h.1 dX9_way_25 rfl ?_
      replace h := h.2
      refine j_topi (fun v7 ev7 => ?_)
      replace h := h v7 ev7
      refine j_istore_n (pc' := 27) (lv' := [(3, .int v7), (0, .ref (g.2.1 0)), (1, .int p1), (2, .int p2)]) hκ (Nat.le_of_ble_eq_true rfl) rfl rfl dX9_way_26 rfl ?_
      refine j_iload_n (pc' := 28) hκ 0 rfl rfl dX9_way_27 rfl ?_
      refine j_ldc (pc' := 30) hκ (mc wm_14_21) dX9_way_28 rfl ?_
      refine j_icmp_ne (tgt := 38) (pc' := 33) hκ dX9_way_30 (by decide) rfl (fun c => ?_) (fun c => ?_)
      · replace h := h.1 c
        refine j_iload_n (pc' := 39) hκ 0 rfl rfl dX9_way_38 rfl ?_
        exact hR _ _ _ _ dX9_way_39 h
      · replace h := h.2 c
        refine j_bipush (pc' := 35) (v := (-10)) hκ (by decide) dX9_way_33 rfl ?_
        refine j_goto (pc' := 39) hκ (by decide) dX9_way_35 ?_
        exact hR _ _ _ _ dX9_way_39 h
    · replace h := h.2 c
      refine j_iconst (pc' := 15) (v := (-1)) hκ (by decide) dX9_way_14 rfl ?_
      exact hR _ _ _ _ dX9_way_15 h
theorem c_LR_way {g : Gx} (hg : Dg g) {X M : ST} {p1 : Int32} {p2 : Int32} {post : Int32 → ST → Prop} (h : wp_LR_way X p1 p2 post) (l : Launch) : Met l yX9_way wq_X9_way rm_LR_way (va_Pc [.ref (g.2.1 0), .int p1, .int p2] (PU g X M)) (va_Qi post (fun Y t => va_P g.1 vwCl (ww g Y M) t.heap) (wA g)) 0 0 (wA g) :=
  met_xi hg (by decide) rfl [.ref (g.2.1 0), .int p1, .int p2] rfl (Nat.le_of_ble_eq_true rfl) (fun κ hκ hR => lb_LR_way hκ hR h) l
theorem wm_16_0 : Cond.methodLink RX7 56 yX7_waysFrom ∈ wAll := inr_16 (List.mem_of_getElem? (i := 0) rfl)
abbrev rm_Town_farEnd : Room := { frames := 0, cells := 0, slots := 0, locals := 0 }
def wp_Town_farEnd (X : ST) (p1 : Int32) (p2 : Int32) (post : Int32 → ST → Prop) : Prop :=
  vp_in p1 100 ∧ ((¬ (x_Town_from X p1.toNatClampNeg) = p2 → (vp_in p1 100 ∧ ((¬ (x_Town_to X p1.toNatClampNeg) = p2 → (post (-1) X)) ∧ ((x_Town_to X p1.toNatClampNeg) = p2 → (vp_in p1 100 ∧ (post (x_Town_from X p1.toNatClampNeg) X)))))) ∧ ((x_Town_from X p1.toNatClampNeg) = p2 → (vp_in p1 100 ∧ (post (x_Town_to X p1.toNatClampNeg) X))))
set_option maxHeartbeats 4000000 in
set_option maxRecDepth 100000 in
theorem lb_Town_farEnd {κ : Cx} {g : Gx} {M : ST} (hκ : CF κ g RX7 cX7_farEnd wq_X7_farEnd 3 rm_Town_farEnd) {post : Int32 → ST → Prop} (hR : RtxI κ g 3 cX7_farEnd M post) {X : ST} {p1 : Int32} {p2 : Int32} (h : wp_Town_farEnd X p1 p2 post) : Jw κ g 3 X M [(0, .ref (g.2.1 2)), (1, .int p1), (2, .int p2)] 0 [] := by
  unfold wp_Town_farEnd at h
  refine j_aload_n (pc' := 1) hκ 0 rfl rfl dX7_farEnd_0 rfl ?_
  refine jg_2_0 (pc' := 4) hκ (mi inlX7) (fl_in hκ (mc wm_3_19)) dX7_farEnd_1 rfl ?_
  refine j_iload_n (pc' := 5) hκ 1 rfl rfl dX7_farEnd_4 rfl ?_
  refine jx_iald (pc' := 6) hκ (ah_15 g) h.1 dX7_farEnd_5 rfl ?_
  replace h := h.2
  refine j_iload_n (pc' := 7) hκ 2 rfl rfl dX7_farEnd_6 rfl ?_
  refine j_icmp_ne (tgt := 17) (pc' := 10) hκ dX7_farEnd_7 (by decide) rfl (fun c => ?_) (fun c => ?_)
  · replace h := h.1 c
    refine j_aload_n (pc' := 18) hκ 0 rfl rfl dX7_farEnd_17 rfl ?_
    refine jg_2_1 (pc' := 21) hκ (mi inlX7) (fl_in hκ (mc wm_3_20)) dX7_farEnd_18 rfl ?_
    refine j_iload_n (pc' := 22) hκ 1 rfl rfl dX7_farEnd_21 rfl ?_
    refine jx_iald (pc' := 23) hκ (ah_16 g) h.1 dX7_farEnd_22 rfl ?_
    replace h := h.2
    refine j_iload_n (pc' := 24) hκ 2 rfl rfl dX7_farEnd_23 rfl ?_
    refine j_icmp_ne (tgt := 36) (pc' := 27) hκ dX7_farEnd_24 (by decide) rfl (fun c => ?_) (fun c => ?_)
    · replace h := h.1 c
      refine j_iconst (pc' := 37) (v := (-1)) hκ (by decide) dX7_farEnd_36 rfl ?_
      exact hR _ _ _ _ dX7_farEnd_37 h
    · replace h := h.2 c
      refine j_aload_n (pc' := 28) hκ 0 rfl rfl dX7_farEnd_27 rfl ?_
      refine jg_2_0 (pc' := 31) hκ (mi inlX7) (fl_in hκ (mc wm_3_19)) dX7_farEnd_28 rfl ?_
      refine j_iload_n (pc' := 32) hκ 1 rfl rfl dX7_farEnd_31 rfl ?_
      refine jx_iald (pc' := 33) hκ (ah_15 g) h.1 dX7_farEnd_32 rfl ?_
      replace h := h.2
      refine j_goto (pc' := 37) hκ (by decide) dX7_farEnd_33 ?_
      exact hR _ _ _ _ dX7_farEnd_37 h
  · replace h := h.2 c
    refine j_aload_n (pc' := 11) hκ 0 rfl rfl dX7_farEnd_10 rfl ?_
    refine jg_2_1 (pc' := 14) hκ (mi inlX7) (fl_in hκ (mc wm_3_20)) dX7_farEnd_11 rfl ?_
    refine j_iload_n (pc' := 15) hκ 1 rfl rfl dX7_farEnd_14 rfl ?_
    refine jx_iald (pc' := 16) hκ (ah_16 g) h.1 dX7_farEnd_15 rfl ?_
    replace h := h.2
    exact hR _ _ _ _ dX7_farEnd_16 h
theorem c_Town_farEnd {g : Gx} (hg : Dg g) {X M : ST} {p1 : Int32} {p2 : Int32} {post : Int32 → ST → Prop} (h : wp_Town_farEnd X p1 p2 post) (l : Launch) : Met l yX7_farEnd wq_X7_farEnd rm_Town_farEnd (va_Pc [.ref (g.2.1 2), .int p1, .int p2] (PU g X M)) (va_Qi post (fun Y t => va_P g.1 vwCl (ww g Y M) t.heap) (wA g)) 0 0 (wA g) :=
  met_xi hg (by decide) rfl [.ref (g.2.1 2), .int p1, .int p2] rfl (Nat.le_of_ble_eq_true rfl) (fun κ hκ hR => lb_Town_farEnd hκ hR h) l
theorem wm_16_5 : Cond.methodLink RX7 64 yX7_farEnd ∈ wAll := inr_16 (List.mem_of_getElem? (i := 5) rfl)
theorem wm_16_6 : Cond.instanceMethod yX7_farEnd ∈ wAll := inr_16 (List.mem_of_getElem? (i := 6) rfl)
theorem wm_16_7 : Cond.selects RX7 yX7_farEnd yX7_farEnd ∈ wAll := inr_16 (List.mem_of_getElem? (i := 7) rfl)
theorem wm_16_8 : Cond.code yX7_farEnd cX7_farEnd 3 (some .int) ∈ wAll := inr_16 (List.mem_of_getElem? (i := 8) rfl)
theorem hqV_X7_farEnd : yX7_farEnd.cls = RX7 ∧ yX7_farEnd.cls ≠ "java/lang/invoke/MethodHandle" ∧ yX7_farEnd.cls ≠ "java/lang/invoke/VarHandle" ∧ (parseMethodDescriptor yX7_farEnd.desc).map (fun d => d.parameters.length) = some 2 := by decide +kernel
abbrev rm_Town_nextOnWalk : Room := { frames := 1, cells := 0, slots := 0, locals := 22 }
def wp_Town_nextOnWalk_5_s (k2 n2 : Nat) (K77 : ST → Int32 → Prop) (post : Int32 → ST → Prop) (rec : ST → Int32 → Int32 → Int32 → Prop) (X : ST) (l1 : Int32) (l3 : Int32) (l4 : Int32) : Prop :=
  ((x_Town_count X) ≤ l4 → (K77 X l3)) ∧ (¬ (x_Town_count X) ≤ l4 → (wp_Town_farEnd X l4 l1 (fun r2 X1 => (r2 = (-1) → (rec X1 l1 l3 (l4 + 1))) ∧ (¬ r2 = (-1) → (vp_in l4 100 ∧ (((x_Town_isOpen X1 l4.toNatClampNeg) = 0 → (rec X1 l1 l3 (l4 + 1))) ∧ (¬ (x_Town_isOpen X1 l4.toNatClampNeg) = 0 → (vp_in l4 100 ∧ (vp_in r2 n2 ∧ (vp_in l1 n2 ∧ ((¬ ((x_Town_size X1 l4.toNatClampNeg) + (X1.2.2.1 k2 r2.toNatClampNeg)) = (X1.2.2.1 k2 l1.toNatClampNeg) → (rec X1 l1 l3 (l4 + 1))) ∧ (((x_Town_size X1 l4.toNatClampNeg) + (X1.2.2.1 k2 r2.toNatClampNeg)) = (X1.2.2.1 k2 l1.toNatClampNeg) → ((l3 = l1 → (rec X1 l1 r2 (l4 + 1))) ∧ (¬ l3 = l1 → ((l3 ≤ r2 → (rec X1 l1 l3 (l4 + 1))) ∧ (¬ l3 ≤ r2 → (rec X1 l1 r2 (l4 + 1))))))))))))))))))
def wp_Town_nextOnWalk_5 (k2 n2 : Nat) (K77 : ST → Int32 → Prop) (post : Int32 → ST → Prop) : Nat → ST → Int32 → Int32 → Int32 → Prop
  | 0 => fun _ _ _ _ => False
  | n + 1 => wp_Town_nextOnWalk_5_s k2 n2 K77 post (wp_Town_nextOnWalk_5 k2 n2 K77 post n)
set_option maxHeartbeats 4000000 in
set_option maxRecDepth 100000 in
theorem lb_Town_nextOnWalk_5 {κ : Cx} {g : Gx} {M : ST} (hκ : CF κ g RX7 cX7_nextOnWalk wq_X7_nextOnWalk 6 rm_Town_nextOnWalk) {post : Int32 → ST → Prop} (hR : RtxI κ g 6 cX7_nextOnWalk M post) {a2 q2 k2 n2 : Nat} (hh2 : ahI g q2 k2 n2 a2) {K77 : ST → Int32 → Prop} (hK77 : ∀ (X : ST) (l3 : Int32), K77 X l3 → Jw κ g 6 X M [(3, .int l3)] 77 []) : ∀ (n : Nat) (X : ST) (l1 : Int32) (l3 : Int32) (l4 : Int32), wp_Town_nextOnWalk_5 k2 n2 K77 post n X l1 l3 l4 → Jw κ g 6 X M [(0, .ref (g.2.1 2)), (1, .int l1), (2, .ref a2), (3, .int l3), (4, .int l4)] 5 [] := by
  intro n
  induction n with
  | zero =>
    intro X l1 l3 l4  h
    exact h.elim
  | succ n ih =>
    intro X l1 l3 l4  h
    have h : wp_Town_nextOnWalk_5_s k2 n2 K77 post (wp_Town_nextOnWalk_5 k2 n2 K77 post n) X l1 l3 l4 := h
    unfold wp_Town_nextOnWalk_5_s at h
    refine j_iload (pc' := 7) hκ 4 rfl dX7_nextOnWalk_5 rfl ?_
    refine j_aload_n (pc' := 8) hκ 0 rfl rfl dX7_nextOnWalk_7 rfl ?_
    refine jg_2_6 (pc' := 11) hκ (mi inlX7) (fl_in hκ (mc wm_4_3)) dX7_nextOnWalk_8 rfl ?_
    refine j_icmp_ge (tgt := 77) (pc' := 14) hκ dX7_nextOnWalk_11 (by decide) rfl (fun c => ?_) (fun c => ?_)
    · replace h := h.1 c
      refine j_sub [3] rfl ?_
      exact hK77 _ _  h
    · replace h := h.2 c
      refine j_aload_n (pc' := 15) hκ 0 rfl rfl dX7_nextOnWalk_14 rfl ?_
      refine j_iload (pc' := 17) hκ 4 rfl dX7_nextOnWalk_15 rfl ?_
      refine j_iload_n (pc' := 18) hκ 1 rfl rfl dX7_nextOnWalk_17 rfl ?_
      refine jx_callVi (pc' := 21) hκ (c_Town_farEnd (dg hκ) h) rfl rfl rfl (gV wm_16_5 wm_16_6 wm_16_7 wm_1_19 wm_16_8) hqV_X7_farEnd ⟨Nat.le_of_ble_eq_true rfl, Nat.le_of_ble_eq_true rfl⟩ (wg_2 g _ _) rfl rfl rfl (Nat.le_of_ble_eq_true rfl) dX7_nextOnWalk_18 rfl (fun r2 X1 h => ?_)
      refine j_istore (pc' := 23) (lv' := [(5, .int r2), (0, .ref (g.2.1 2)), (1, .int l1), (2, .ref a2), (3, .int l3), (4, .int l4)]) hκ (Nat.le_of_ble_eq_true rfl) rfl dX7_nextOnWalk_21 rfl ?_
      refine j_iload (pc' := 25) hκ 0 rfl dX7_nextOnWalk_23 rfl ?_
      refine j_iconst (pc' := 26) (v := (-1)) hκ (by decide) dX7_nextOnWalk_25 rfl ?_
      refine j_icmp_eq (tgt := 71) (pc' := 29) hκ dX7_nextOnWalk_26 (by decide) rfl (fun c => ?_) (fun c => ?_)
      · replace h := h.1 c
        refine j_iinc (pc' := 74) (v := l4 + 1) (lv' := [(4, .int (l4 + 1)), (5, .int r2), (0, .ref (g.2.1 2)), (1, .int l1), (2, .ref a2), (3, .int l3)]) hκ 5 rfl rfl (Nat.le_of_ble_eq_true rfl) rfl dX7_nextOnWalk_71 rfl ?_
        refine j_goto (pc' := 5) hκ (by decide) dX7_nextOnWalk_74 ?_
        refine j_sub [2, 3, 4, 5, 0] rfl ?_
        exact ih _ _ _ _  h
      · replace h := h.2 c
        refine j_aload_n (pc' := 30) hκ 1 rfl rfl dX7_nextOnWalk_29 rfl ?_
        refine jg_2_3 (pc' := 33) hκ (mi inlX7) (fl_in hκ (mc wm_3_23)) dX7_nextOnWalk_30 rfl ?_
        refine j_iload (pc' := 35) hκ 5 rfl dX7_nextOnWalk_33 rfl ?_
        refine jx_zald (pc' := 36) hκ (ah_18 g) h.1 dX7_nextOnWalk_35 rfl ?_
        replace h := h.2
        refine j_if_eq (tgt := 71) (pc' := 39) hκ dX7_nextOnWalk_36 (by decide) rfl (fun c => ?_) (fun c => ?_)
        · replace h := h.1 c
          refine j_iinc (pc' := 74) (v := l4 + 1) (lv' := [(4, .int (l4 + 1)), (5, .int r2), (0, .ref (g.2.1 2)), (1, .int l1), (2, .ref a2), (3, .int l3)]) hκ 5 rfl rfl (Nat.le_of_ble_eq_true rfl) rfl dX7_nextOnWalk_71 rfl ?_
          refine j_goto (pc' := 5) hκ (by decide) dX7_nextOnWalk_74 ?_
          refine j_sub [2, 3, 4, 5, 0] rfl ?_
          exact ih _ _ _ _  h
        · replace h := h.2 c
          refine j_aload_n (pc' := 40) hκ 1 rfl rfl dX7_nextOnWalk_39 rfl ?_
          refine jg_2_2 (pc' := 43) hκ (mi inlX7) (fl_in hκ (mc wm_3_21)) dX7_nextOnWalk_40 rfl ?_
          refine j_iload (pc' := 45) hκ 5 rfl dX7_nextOnWalk_43 rfl ?_
          refine jx_iald (pc' := 46) hκ (ah_17 g) h.1 dX7_nextOnWalk_45 rfl ?_
          replace h := h.2
          refine j_aload_n (pc' := 47) hκ 3 rfl rfl dX7_nextOnWalk_46 rfl ?_
          refine j_iload (pc' := 49) hκ 0 rfl dX7_nextOnWalk_47 rfl ?_
          refine jx_iald (pc' := 50) hκ hh2 h.1 dX7_nextOnWalk_49 rfl ?_
          replace h := h.2
          refine j_iadd (pc' := 51) hκ dX7_nextOnWalk_50 rfl ?_
          refine j_aload_n (pc' := 52) hκ 3 rfl rfl dX7_nextOnWalk_51 rfl ?_
          refine j_iload_n (pc' := 53) hκ 2 rfl rfl dX7_nextOnWalk_52 rfl ?_
          refine jx_iald (pc' := 54) hκ hh2 h.1 dX7_nextOnWalk_53 rfl ?_
          replace h := h.2
          refine j_icmp_ne (tgt := 71) (pc' := 57) hκ dX7_nextOnWalk_54 (by decide) rfl (fun c => ?_) (fun c => ?_)
          · replace h := h.1 c
            refine j_iinc (pc' := 74) (v := l4 + 1) (lv' := [(4, .int (l4 + 1)), (5, .int r2), (0, .ref (g.2.1 2)), (1, .int l1), (2, .ref a2), (3, .int l3)]) hκ 5 rfl rfl (Nat.le_of_ble_eq_true rfl) rfl dX7_nextOnWalk_71 rfl ?_
            refine j_goto (pc' := 5) hκ (by decide) dX7_nextOnWalk_74 ?_
            refine j_sub [2, 3, 4, 5, 0] rfl ?_
            exact ih _ _ _ _  h
          · replace h := h.2 c
            refine j_iload_n (pc' := 58) hκ 4 rfl rfl dX7_nextOnWalk_57 rfl ?_
            refine j_iload_n (pc' := 59) hκ 2 rfl rfl dX7_nextOnWalk_58 rfl ?_
            refine j_icmp_eq (tgt := 68) (pc' := 62) hκ dX7_nextOnWalk_59 (by decide) rfl (fun c => ?_) (fun c => ?_)
            · replace h := h.1 c
              refine j_iload (pc' := 70) hκ 0 rfl dX7_nextOnWalk_68 rfl ?_
              refine j_istore_n (pc' := 71) (lv' := [(3, .int r2), (5, .int r2), (0, .ref (g.2.1 2)), (1, .int l1), (2, .ref a2), (4, .int l4)]) hκ (Nat.le_of_ble_eq_true rfl) rfl rfl dX7_nextOnWalk_70 rfl ?_
              refine j_iinc (pc' := 74) (v := l4 + 1) (lv' := [(4, .int (l4 + 1)), (3, .int r2), (5, .int r2), (0, .ref (g.2.1 2)), (1, .int l1), (2, .ref a2)]) hκ 5 rfl rfl (Nat.le_of_ble_eq_true rfl) rfl dX7_nextOnWalk_71 rfl ?_
              refine j_goto (pc' := 5) hκ (by decide) dX7_nextOnWalk_74 ?_
              refine j_sub [3, 4, 5, 1, 0] rfl ?_
              exact ih _ _ _ _  h
            · replace h := h.2 c
              refine j_iload (pc' := 64) hκ 0 rfl dX7_nextOnWalk_62 rfl ?_
              refine j_iload_n (pc' := 65) hκ 4 rfl rfl dX7_nextOnWalk_64 rfl ?_
              refine j_icmp_ge (tgt := 71) (pc' := 68) hκ dX7_nextOnWalk_65 (by decide) rfl (fun c => ?_) (fun c => ?_)
              · replace h := h.1 c
                refine j_iinc (pc' := 74) (v := l4 + 1) (lv' := [(4, .int (l4 + 1)), (5, .int r2), (0, .ref (g.2.1 2)), (1, .int l1), (2, .ref a2), (3, .int l3)]) hκ 5 rfl rfl (Nat.le_of_ble_eq_true rfl) rfl dX7_nextOnWalk_71 rfl ?_
                refine j_goto (pc' := 5) hκ (by decide) dX7_nextOnWalk_74 ?_
                refine j_sub [2, 3, 4, 5, 0] rfl ?_
                exact ih _ _ _ _  h
              · replace h := h.2 c
                refine j_iload (pc' := 70) hκ 0 rfl dX7_nextOnWalk_68 rfl ?_
                refine j_istore_n (pc' := 71) (lv' := [(3, .int r2), (5, .int r2), (0, .ref (g.2.1 2)), (1, .int l1), (2, .ref a2), (4, .int l4)]) hκ (Nat.le_of_ble_eq_true rfl) rfl rfl dX7_nextOnWalk_70 rfl ?_
                refine j_iinc (pc' := 74) (v := l4 + 1) (lv' := [(4, .int (l4 + 1)), (3, .int r2), (5, .int r2), (0, .ref (g.2.1 2)), (1, .int l1), (2, .ref a2)]) hκ 5 rfl rfl (Nat.le_of_ble_eq_true rfl) rfl dX7_nextOnWalk_71 rfl ?_
                refine j_goto (pc' := 5) hκ (by decide) dX7_nextOnWalk_74 ?_
                refine j_sub [3, 4, 5, 1, 0] rfl ?_
                exact ih _ _ _ _  h
def wp_Town_nextOnWalk (X : ST) (p1 : Int32) (k2 n2 : Nat) (post : Int32 → ST → Prop) : Prop :=
  ∃ n, wp_Town_nextOnWalk_5 k2 n2 (fun X3 v4 => post v4 X3) post n X p1 p1 0
set_option maxHeartbeats 4000000 in
set_option maxRecDepth 100000 in
theorem lb_Town_nextOnWalk {κ : Cx} {g : Gx} {M : ST} (hκ : CF κ g RX7 cX7_nextOnWalk wq_X7_nextOnWalk 6 rm_Town_nextOnWalk) {post : Int32 → ST → Prop} (hR : RtxI κ g 6 cX7_nextOnWalk M post) {X : ST} {p1 : Int32} {k2 n2 : Nat} {a2 q2 : Nat} (hh2 : ahI g q2 k2 n2 a2) (h : wp_Town_nextOnWalk X p1 k2 n2 post) : Jw κ g 6 X M [(0, .ref (g.2.1 2)), (1, .int p1), (2, .ref a2)] 0 [] := by
  unfold wp_Town_nextOnWalk at h
  refine j_iload_n (pc' := 1) hκ 1 rfl rfl dX7_nextOnWalk_0 rfl ?_
  refine j_istore_n (pc' := 2) (lv' := [(3, .int p1), (0, .ref (g.2.1 2)), (1, .int p1), (2, .ref a2)]) hκ (Nat.le_of_ble_eq_true rfl) rfl rfl dX7_nextOnWalk_1 rfl ?_
  refine j_iconst (pc' := 3) (v := 0) hκ (by decide) dX7_nextOnWalk_2 rfl ?_
  refine j_istore (pc' := 5) (lv' := [(4, .int 0), (3, .int p1), (0, .ref (g.2.1 2)), (1, .int p1), (2, .ref a2)]) hκ (Nat.le_of_ble_eq_true rfl) rfl dX7_nextOnWalk_3 rfl ?_
  obtain ⟨n, h⟩ := h
  refine j_sub [2, 3, 4, 1, 0] rfl ?_
  refine lb_Town_nextOnWalk_5 hκ hR hh2 ?_ n _ _ _ _  h
  intro X3 v4  h
  refine j_iload_n (pc' := 78) hκ 0 rfl rfl dX7_nextOnWalk_77 rfl ?_
  exact hR _ _ _ _ dX7_nextOnWalk_78 h
theorem c_Town_nextOnWalk {g : Gx} (hg : Dg g) {X M : ST} {p1 : Int32} {k2 n2 : Nat} {a2 q2 : Nat} (hh2 : ahI g q2 k2 n2 a2) {post : Int32 → ST → Prop} (h : wp_Town_nextOnWalk X p1 k2 n2 post) (l : Launch) : Met l yX7_nextOnWalk wq_X7_nextOnWalk rm_Town_nextOnWalk (va_Pc [.ref (g.2.1 2), .int p1, .ref a2] (PU g X M)) (va_Qi post (fun Y t => va_P g.1 vwCl (ww g Y M) t.heap) (wA g)) 0 0 (wA g) :=
  met_xi hg (by decide) rfl [.ref (g.2.1 2), .int p1, .ref a2] rfl (Nat.le_of_ble_eq_true rfl) (fun κ hκ hR => lb_Town_nextOnWalk hκ hR hh2 h) l
theorem wm_16_1 : Cond.methodLink RX7 60 yX7_nextOnWalk ∈ wAll := inr_16 (List.mem_of_getElem? (i := 1) rfl)
theorem wm_16_2 : Cond.instanceMethod yX7_nextOnWalk ∈ wAll := inr_16 (List.mem_of_getElem? (i := 2) rfl)
theorem wm_16_3 : Cond.selects RX7 yX7_nextOnWalk yX7_nextOnWalk ∈ wAll := inr_16 (List.mem_of_getElem? (i := 3) rfl)
theorem wm_16_4 : Cond.code yX7_nextOnWalk cX7_nextOnWalk 6 (some .int) ∈ wAll := inr_16 (List.mem_of_getElem? (i := 4) rfl)
theorem hqV_X7_nextOnWalk : yX7_nextOnWalk.cls = RX7 ∧ yX7_nextOnWalk.cls ≠ "java/lang/invoke/MethodHandle" ∧ yX7_nextOnWalk.cls ≠ "java/lang/invoke/VarHandle" ∧ (parseMethodDescriptor yX7_nextOnWalk.desc).map (fun d => d.parameters.length) = some 2 := by decide +kernel
abbrev rm_Town_crossingOnWalk : Room := { frames := 3, cells := 0, slots := 0, locals := 70 }
def wp_Town_crossingOnWalk_34_s (K46 : ST → Prop) (K64 : ST → Int32 → Prop) (post : Int32 → ST → Prop) (rec : ST → Int32 → Int32 → Nat → Int32 → Int32 → Prop) (X : ST) (l2 : Int32) (l3 : Int32) (l4 : Nat) (l5 : Int32) (l6 : Int32) : Prop :=
  (l3 ≤ l6 → (K64 X l5)) ∧ (¬ l3 ≤ l6 → ((¬ l5 = l2 → (wp_Town_nextOnWalk X l5 (l4 + 100) 40 (fun r4 X3 => rec X3 l2 l3 l4 r4 (l6 + 1)))) ∧ (l5 = l2 → (K46 X))))
def wp_Town_crossingOnWalk_34 (K46 : ST → Prop) (K64 : ST → Int32 → Prop) (post : Int32 → ST → Prop) : Nat → ST → Int32 → Int32 → Nat → Int32 → Int32 → Prop
  | 0 => fun _ _ _ _ _ _ => False
  | n + 1 => wp_Town_crossingOnWalk_34_s K46 K64 post (wp_Town_crossingOnWalk_34 K46 K64 post n)
set_option maxHeartbeats 4000000 in
set_option maxRecDepth 100000 in
theorem lb_Town_crossingOnWalk_34 {κ : Cx} {g : Gx} {M : ST} (hκ : CF κ g RX7 cX7_crossingOnWalk wq_X7_crossingOnWalk 7 rm_Town_crossingOnWalk) {post : Int32 → ST → Prop} (hR : RtxI κ g 7 cX7_crossingOnWalk M post) {K46 : ST → Prop} {K64 : ST → Int32 → Prop} (hK46 : ∀ (X : ST), K46 X → Jw κ g 7 X M [] 46 []) (hK64 : ∀ (X : ST) (l5 : Int32), K64 X l5 → Jw κ g 7 X M [(5, .int l5)] 64 []) : ∀ (n : Nat) (X : ST) (l2 : Int32) (l3 : Int32) (l4 : Nat) (l5 : Int32) (l6 : Int32), l4 < 40 → wp_Town_crossingOnWalk_34 K46 K64 post n X l2 l3 l4 l5 l6 → Jw κ g 7 X M [(0, .ref (g.2.1 2)), (2, .int l2), (3, .int l3), (4, .ref (g.2.1 (l4 + 100))), (5, .int l5), (6, .int l6)] 34 [] := by
  intro n
  induction n with
  | zero =>
    intro X l2 l3 l4 l5 l6 hl4 h
    exact h.elim
  | succ n ih =>
    intro X l2 l3 l4 l5 l6 hl4 h
    have h : wp_Town_crossingOnWalk_34_s K46 K64 post (wp_Town_crossingOnWalk_34 K46 K64 post n) X l2 l3 l4 l5 l6 := h
    unfold wp_Town_crossingOnWalk_34_s at h
    refine j_iload (pc' := 36) hκ 5 rfl dX7_crossingOnWalk_34 rfl ?_
    refine j_iload_n (pc' := 37) hκ 2 rfl rfl dX7_crossingOnWalk_36 rfl ?_
    refine j_icmp_ge (tgt := 64) (pc' := 40) hκ dX7_crossingOnWalk_37 (by decide) rfl (fun c => ?_) (fun c => ?_)
    · replace h := h.1 c
      refine j_sub [4] rfl ?_
      exact hK64 _ _  h
    · replace h := h.2 c
      refine j_iload (pc' := 42) hκ 4 rfl dX7_crossingOnWalk_40 rfl ?_
      refine j_iload_n (pc' := 43) hκ 1 rfl rfl dX7_crossingOnWalk_42 rfl ?_
      refine j_icmp_ne (tgt := 48) (pc' := 46) hκ dX7_crossingOnWalk_43 (by decide) rfl (fun c => ?_) (fun c => ?_)
      · replace h := h.1 c
        refine j_aload_n (pc' := 49) hκ 0 rfl rfl dX7_crossingOnWalk_48 rfl ?_
        refine j_iload (pc' := 51) hκ 4 rfl dX7_crossingOnWalk_49 rfl ?_
        refine j_aload (pc' := 53) hκ 3 rfl dX7_crossingOnWalk_51 rfl ?_
        refine jx_callVi (pc' := 56) hκ (c_Town_nextOnWalk (dg hκ) (ah_ways g hl4) h) rfl rfl rfl (gV wm_16_1 wm_16_2 wm_16_3 wm_1_19 wm_16_4) hqV_X7_nextOnWalk ⟨Nat.le_of_ble_eq_true rfl, Nat.le_of_ble_eq_true rfl⟩ (wg_2 g _ _) rfl rfl rfl (Nat.le_of_ble_eq_true rfl) dX7_crossingOnWalk_53 rfl (fun r4 X3 h => ?_)
        refine j_istore (pc' := 58) (lv' := [(5, .int r4), (0, .ref (g.2.1 2)), (2, .int l2), (3, .int l3), (4, .ref (g.2.1 (l4 + 100))), (6, .int l6)]) hκ (Nat.le_of_ble_eq_true rfl) rfl dX7_crossingOnWalk_56 rfl ?_
        refine j_iinc (pc' := 61) (v := l6 + 1) (lv' := [(6, .int (l6 + 1)), (5, .int r4), (0, .ref (g.2.1 2)), (2, .int l2), (3, .int l3), (4, .ref (g.2.1 (l4 + 100)))]) hκ 5 rfl rfl (Nat.le_of_ble_eq_true rfl) rfl dX7_crossingOnWalk_58 rfl ?_
        refine j_goto (pc' := 34) hκ (by decide) dX7_crossingOnWalk_61 ?_
        refine j_sub [2, 3, 4, 5, 1, 0] rfl ?_
        exact ih _ _ _ _ _ _ hl4 h
      · replace h := h.2 c
        refine j_sub [] rfl ?_
        exact hK46 _  h
def wp_Town_crossingOnWalk (X : ST) (p1 : Int32) (p2 : Int32) (p3 : Int32) (post : Int32 → ST → Prop) : Prop :=
  wp_Town_waysFrom X p2 (fun r2 X1 => (p3 < 0 → (post (-1) X1)) ∧ (¬ p3 < 0 → ((40 ≤ p3 → (post (-1) X1)) ∧ (¬ 40 ≤ p3 → (vp_in p1 40 ∧ ((¬ (x_ways X1 r2 p1.toNatClampNeg) = 1000000 → (∃ n, wp_Town_crossingOnWalk_34 (fun X5 => post (-1) X5) (fun X6 v7 => post v7 X6) post n X1 p2 p3 r2 p1 0)) ∧ ((x_ways X1 r2 p1.toNatClampNeg) = 1000000 → (post (-1) X1))))))))
set_option maxHeartbeats 4000000 in
set_option maxRecDepth 100000 in
theorem lb_Town_crossingOnWalk {κ : Cx} {g : Gx} {M : ST} (hκ : CF κ g RX7 cX7_crossingOnWalk wq_X7_crossingOnWalk 7 rm_Town_crossingOnWalk) {post : Int32 → ST → Prop} (hR : RtxI κ g 7 cX7_crossingOnWalk M post) {X : ST} {p1 : Int32} {p2 : Int32} {p3 : Int32} (h : wp_Town_crossingOnWalk X p1 p2 p3 post) : Jw κ g 7 X M [(0, .ref (g.2.1 2)), (1, .int p1), (2, .int p2), (3, .int p3)] 0 [] := by
  unfold wp_Town_crossingOnWalk at h
  refine j_aload_n (pc' := 1) hκ 0 rfl rfl dX7_crossingOnWalk_0 rfl ?_
  refine j_iload_n (pc' := 2) hκ 2 rfl rfl dX7_crossingOnWalk_1 rfl ?_
  refine jx_callVr (pc' := 5) hκ (c_Town_waysFrom (dg hκ) h) rfl rfl rfl (gV wm_16_0 wm_14_23 wm_15_0 wm_1_19 wm_15_1) hqV_X7_waysFrom ⟨Nat.le_of_ble_eq_true rfl, Nat.le_of_ble_eq_true rfl⟩ (wg_2 g _ _) rfl rfl rfl (Nat.le_of_ble_eq_true rfl) dX7_crossingOnWalk_2 rfl (fun r2 X1 hr2 h => ?_)
  refine j_astore (pc' := 7) (lv' := [(4, .ref (g.2.1 (r2 + 100))), (0, .ref (g.2.1 2)), (1, .int p1), (2, .int p2), (3, .int p3)]) hκ (Nat.le_of_ble_eq_true rfl) rfl dX7_crossingOnWalk_5 rfl ?_
  refine j_iload_n (pc' := 8) hκ 4 rfl rfl dX7_crossingOnWalk_7 rfl ?_
  refine j_if_lt (tgt := 26) (pc' := 11) hκ dX7_crossingOnWalk_8 (by decide) rfl (fun c => ?_) (fun c => ?_)
  · replace h := h.1 c
    refine j_iconst (pc' := 27) (v := (-1)) hκ (by decide) dX7_crossingOnWalk_26 rfl ?_
    exact hR _ _ _ _ dX7_crossingOnWalk_27 h
  · replace h := h.2 c
    refine j_iload_n (pc' := 12) hκ 4 rfl rfl dX7_crossingOnWalk_11 rfl ?_
    refine j_bipush (pc' := 14) (v := 40) hκ (by decide) dX7_crossingOnWalk_12 rfl ?_
    refine j_icmp_ge (tgt := 26) (pc' := 17) hκ dX7_crossingOnWalk_14 (by decide) rfl (fun c => ?_) (fun c => ?_)
    · replace h := h.1 c
      refine j_iconst (pc' := 27) (v := (-1)) hκ (by decide) dX7_crossingOnWalk_26 rfl ?_
      exact hR _ _ _ _ dX7_crossingOnWalk_27 h
    · replace h := h.2 c
      refine j_aload (pc' := 19) hκ 0 rfl dX7_crossingOnWalk_17 rfl ?_
      refine j_iload_n (pc' := 20) hκ 2 rfl rfl dX7_crossingOnWalk_19 rfl ?_
      refine jx_iald (pc' := 21) hκ (ah_ways g hr2) h.1 dX7_crossingOnWalk_20 rfl ?_
      replace h := h.2
      refine j_ldc (pc' := 23) hκ (mc wm_15_6) dX7_crossingOnWalk_21 rfl ?_
      refine j_icmp_ne (tgt := 28) (pc' := 26) hκ dX7_crossingOnWalk_23 (by decide) rfl (fun c => ?_) (fun c => ?_)
      · replace h := h.1 c
        refine j_iload_n (pc' := 29) hκ 2 rfl rfl dX7_crossingOnWalk_28 rfl ?_
        refine j_istore (pc' := 31) (lv' := [(5, .int p1), (4, .ref (g.2.1 (r2 + 100))), (0, .ref (g.2.1 2)), (1, .int p1), (2, .int p2), (3, .int p3)]) hκ (Nat.le_of_ble_eq_true rfl) rfl dX7_crossingOnWalk_29 rfl ?_
        refine j_iconst (pc' := 32) (v := 0) hκ (by decide) dX7_crossingOnWalk_31 rfl ?_
        refine j_istore (pc' := 34) (lv' := [(6, .int 0), (5, .int p1), (4, .ref (g.2.1 (r2 + 100))), (0, .ref (g.2.1 2)), (1, .int p1), (2, .int p2), (3, .int p3)]) hκ (Nat.le_of_ble_eq_true rfl) rfl dX7_crossingOnWalk_32 rfl ?_
        obtain ⟨n, h⟩ := h
        refine j_sub [3, 5, 6, 2, 1, 0] rfl ?_
        refine lb_Town_crossingOnWalk_34 hκ hR ?_ ?_ n _ _ _ _ _ _ hr2 h
        · intro X5  h
          refine j_iconst (pc' := 47) (v := (-1)) hκ (by decide) dX7_crossingOnWalk_46 rfl ?_
          exact hR _ _ _ _ dX7_crossingOnWalk_47 h
        · intro X6 v7  h
          refine j_iload (pc' := 66) hκ 0 rfl dX7_crossingOnWalk_64 rfl ?_
          exact hR _ _ _ _ dX7_crossingOnWalk_66 h
      · replace h := h.2 c
        refine j_iconst (pc' := 27) (v := (-1)) hκ (by decide) dX7_crossingOnWalk_26 rfl ?_
        exact hR _ _ _ _ dX7_crossingOnWalk_27 h
theorem c_Town_crossingOnWalk {g : Gx} (hg : Dg g) {X M : ST} {p1 : Int32} {p2 : Int32} {p3 : Int32} {post : Int32 → ST → Prop} (h : wp_Town_crossingOnWalk X p1 p2 p3 post) (l : Launch) : Met l yX7_crossingOnWalk wq_X7_crossingOnWalk rm_Town_crossingOnWalk (va_Pc [.ref (g.2.1 2), .int p1, .int p2, .int p3] (PU g X M)) (va_Qi post (fun Y t => va_P g.1 vwCl (ww g Y M) t.heap) (wA g)) 0 0 (wA g) :=
  met_xi hg (by decide) rfl [.ref (g.2.1 2), .int p1, .int p2, .int p3] rfl (Nat.le_of_ble_eq_true rfl) (fun κ hκ hR => lb_Town_crossingOnWalk hκ hR h) l
theorem wm_15_20 : Cond.methodLink RX9 162 yX7_crossingOnWalk ∈ wAll := inr_15 (List.mem_of_getElem? (i := 20) rfl)
theorem wm_15_21 : Cond.instanceMethod yX7_crossingOnWalk ∈ wAll := inr_15 (List.mem_of_getElem? (i := 21) rfl)
theorem wm_15_22 : Cond.selects RX7 yX7_crossingOnWalk yX7_crossingOnWalk ∈ wAll := inr_15 (List.mem_of_getElem? (i := 22) rfl)
theorem wm_15_23 : Cond.code yX7_crossingOnWalk cX7_crossingOnWalk 7 (some .int) ∈ wAll := inr_15 (List.mem_of_getElem? (i := 23) rfl)
theorem hqV_X7_crossingOnWalk : yX7_crossingOnWalk.cls = RX7 ∧ yX7_crossingOnWalk.cls ≠ "java/lang/invoke/MethodHandle" ∧ yX7_crossingOnWalk.cls ≠ "java/lang/invoke/VarHandle" ∧ (parseMethodDescriptor yX7_crossingOnWalk.desc).map (fun d => d.parameters.length) = some 3 := by decide +kernel
abbrev rm_LR_walk : Room := { frames := 4, cells := 0, slots := 0, locals := 96 }
def wp_LR_walk (X : ST) (p1 : Int32) (p2 : Int32) (p3 : Int32) (post : Int32 → ST → Prop) : Prop :=
  wp_LR_isCrossing X p1 (fun r2 X1 => (r2 = 0 → (post (-1) X1)) ∧ (¬ r2 = 0 → (wp_LR_isCrossing X1 p2 (fun r4 X3 => (¬ r4 = 0 → (wp_Town_crossingOnWalk X3 p1 p2 p3 (fun r6 X5 => post r6 X5))) ∧ (r4 = 0 → (post (-1) X3))))))
set_option maxHeartbeats 4000000 in
set_option maxRecDepth 100000 in
theorem lb_LR_walk {κ : Cx} {g : Gx} {M : ST} (hκ : CF κ g RX9 cX9_walk wq_X9_walk 4 rm_LR_walk) {post : Int32 → ST → Prop} (hR : RtxI κ g 4 cX9_walk M post) {X : ST} {p1 : Int32} {p2 : Int32} {p3 : Int32} (h : wp_LR_walk X p1 p2 p3 post) : Jw κ g 4 X M [(0, .ref (g.2.1 0)), (1, .int p1), (2, .int p2), (3, .int p3)] 0 [] := by
  unfold wp_LR_walk at h
  refine j_iload_n (pc' := 1) hκ 1 rfl rfl dX9_walk_0 rfl ?_
  refine jx_callSi (pc' := 4) hκ (c_LR_isCrossing (dg hκ) h) rfl rfl rfl (gS wm_9_1 wm_9_2 wm_1_2 wm_9_3) hqS_X9_isCrossing ⟨Nat.le_of_ble_eq_true rfl, Nat.le_of_ble_eq_true rfl⟩ rfl rfl (Nat.le_of_ble_eq_true rfl) dX9_walk_1 rfl (fun r2 X1 h => ?_)
  refine j_if_eq (tgt := 14) (pc' := 7) hκ dX9_walk_4 (by decide) rfl (fun c => ?_) (fun c => ?_)
  · replace h := h.1 c
    refine j_iconst (pc' := 15) (v := (-1)) hκ (by decide) dX9_walk_14 rfl ?_
    exact hR _ _ _ _ dX9_walk_15 h
  · replace h := h.2 c
    refine j_iload_n (pc' := 8) hκ 2 rfl rfl dX9_walk_7 rfl ?_
    refine jx_callSi (pc' := 11) hκ (c_LR_isCrossing (dg hκ) h) rfl rfl rfl (gS wm_9_1 wm_9_2 wm_1_2 wm_9_3) hqS_X9_isCrossing ⟨Nat.le_of_ble_eq_true rfl, Nat.le_of_ble_eq_true rfl⟩ rfl rfl (Nat.le_of_ble_eq_true rfl) dX9_walk_8 rfl (fun r4 X3 h => ?_)
    refine j_if_ne (tgt := 16) (pc' := 14) hκ dX9_walk_11 (by decide) rfl (fun c => ?_) (fun c => ?_)
    · replace h := h.1 c
      refine j_aload_n (pc' := 17) hκ 0 rfl rfl dX9_walk_16 rfl ?_
      refine jg_0_1 (pc' := 20) hκ (mi inlX9) (fl_in hκ (mc wm_1_20)) dX9_walk_17 rfl ?_
      refine j_iload_n (pc' := 21) hκ 1 rfl rfl dX9_walk_20 rfl ?_
      refine j_iload_n (pc' := 22) hκ 2 rfl rfl dX9_walk_21 rfl ?_
      refine j_iload_n (pc' := 23) hκ 3 rfl rfl dX9_walk_22 rfl ?_
      refine jx_callVi (pc' := 26) hκ (c_Town_crossingOnWalk (dg hκ) h) rfl rfl rfl (gV wm_15_20 wm_15_21 wm_15_22 wm_1_19 wm_15_23) hqV_X7_crossingOnWalk ⟨Nat.le_of_ble_eq_true rfl, Nat.le_of_ble_eq_true rfl⟩ (wg_2 g _ _) rfl rfl rfl (Nat.le_of_ble_eq_true rfl) dX9_walk_23 rfl (fun r6 X5 h => ?_)
      exact hR _ _ _ _ dX9_walk_26 h
    · replace h := h.2 c
      refine j_iconst (pc' := 15) (v := (-1)) hκ (by decide) dX9_walk_14 rfl ?_
      exact hR _ _ _ _ dX9_walk_15 h
theorem c_LR_walk {g : Gx} (hg : Dg g) {X M : ST} {p1 : Int32} {p2 : Int32} {p3 : Int32} {post : Int32 → ST → Prop} (h : wp_LR_walk X p1 p2 p3 post) (l : Launch) : Met l yX9_walk wq_X9_walk rm_LR_walk (va_Pc [.ref (g.2.1 0), .int p1, .int p2, .int p3] (PU g X M)) (va_Qi post (fun Y t => va_P g.1 vwCl (ww g Y M) t.heap) (wA g)) 0 0 (wA g) :=
  met_xi hg (by decide) rfl [.ref (g.2.1 0), .int p1, .int p2, .int p3] rfl (Nat.le_of_ble_eq_true rfl) (fun κ hκ hR => lb_LR_walk hκ hR h) l
theorem wm_4_17 : Cond.fieldLink RX2 39 "LampRound$Lamps" "count" "I" ∈ wAll := inr_4 (List.mem_of_getElem? (i := 17) rfl)
theorem wm_4_8 : Cond.fieldLink RX2 9 "LampRound$Lamps" "crossings" "[I" ∈ wAll := inr_4 (List.mem_of_getElem? (i := 8) rfl)
abbrev rm_Lamps_standsAt : Room := { frames := 0, cells := 0, slots := 0, locals := 0 }
def wp_Lamps_standsAt_2_s (K20 : ST → Prop) (K28 : ST → Prop) (post : Int32 → ST → Prop) (rec : ST → Int32 → Int32 → Prop) (X : ST) (l1 : Int32) (l2 : Int32) : Prop :=
  ((x_Lamps_count X) ≤ l2 → (K28 X)) ∧ (¬ (x_Lamps_count X) ≤ l2 → (vp_in l2 12 ∧ ((¬ (x_Lamps_crossings X l2.toNatClampNeg) = l1 → (rec X l1 (l2 + 1))) ∧ ((x_Lamps_crossings X l2.toNatClampNeg) = l1 → (K20 X)))))
def wp_Lamps_standsAt_2 (K20 : ST → Prop) (K28 : ST → Prop) (post : Int32 → ST → Prop) : Nat → ST → Int32 → Int32 → Prop
  | 0 => fun _ _ _ => False
  | n + 1 => wp_Lamps_standsAt_2_s K20 K28 post (wp_Lamps_standsAt_2 K20 K28 post n)
set_option maxHeartbeats 4000000 in
set_option maxRecDepth 100000 in
theorem lb_Lamps_standsAt_2 {κ : Cx} {g : Gx} {M : ST} (hκ : CF κ g RX2 cX2_standsAt wq_X2_standsAt 3 rm_Lamps_standsAt) {post : Int32 → ST → Prop} (hR : RtxZ κ g 3 cX2_standsAt M post) {K20 : ST → Prop} {K28 : ST → Prop} (hK20 : ∀ (X : ST), K20 X → Jw κ g 3 X M [] 20 []) (hK28 : ∀ (X : ST), K28 X → Jw κ g 3 X M [] 28 []) : ∀ (n : Nat) (X : ST) (l1 : Int32) (l2 : Int32), wp_Lamps_standsAt_2 K20 K28 post n X l1 l2 → Jw κ g 3 X M [(0, .ref (g.2.1 3)), (1, .int l1), (2, .int l2)] 2 [] := by
  intro n
  induction n with
  | zero =>
    intro X l1 l2  h
    exact h.elim
  | succ n ih =>
    intro X l1 l2  h
    have h : wp_Lamps_standsAt_2_s K20 K28 post (wp_Lamps_standsAt_2 K20 K28 post n) X l1 l2 := h
    unfold wp_Lamps_standsAt_2_s at h
    refine j_iload_n (pc' := 3) hκ 2 rfl rfl dX2_standsAt_2 rfl ?_
    refine j_aload_n (pc' := 4) hκ 0 rfl rfl dX2_standsAt_3 rfl ?_
    refine jg_3_9 (pc' := 7) hκ (mi inlX2) (fl_in hκ (mc wm_4_17)) dX2_standsAt_4 rfl ?_
    refine j_icmp_ge (tgt := 28) (pc' := 10) hκ dX2_standsAt_7 (by decide) rfl (fun c => ?_) (fun c => ?_)
    · replace h := h.1 c
      refine j_sub [] rfl ?_
      exact hK28 _  h
    · replace h := h.2 c
      refine j_aload_n (pc' := 11) hκ 0 rfl rfl dX2_standsAt_10 rfl ?_
      refine jg_3_1 (pc' := 14) hκ (mi inlX2) (fl_in hκ (mc wm_4_8)) dX2_standsAt_11 rfl ?_
      refine j_iload_n (pc' := 15) hκ 2 rfl rfl dX2_standsAt_14 rfl ?_
      refine jx_iald (pc' := 16) hκ (ah_20 g) h.1 dX2_standsAt_15 rfl ?_
      replace h := h.2
      refine j_iload_n (pc' := 17) hκ 1 rfl rfl dX2_standsAt_16 rfl ?_
      refine j_icmp_ne (tgt := 22) (pc' := 20) hκ dX2_standsAt_17 (by decide) rfl (fun c => ?_) (fun c => ?_)
      · replace h := h.1 c
        refine j_iinc (pc' := 25) (v := l2 + 1) (lv' := [(2, .int (l2 + 1)), (0, .ref (g.2.1 3)), (1, .int l1)]) hκ 2 rfl rfl (Nat.le_of_ble_eq_true rfl) rfl dX2_standsAt_22 rfl ?_
        refine j_goto (pc' := 2) hκ (by decide) dX2_standsAt_25 ?_
        refine j_sub [1, 2, 0] rfl ?_
        exact ih _ _ _  h
      · replace h := h.2 c
        refine j_sub [] rfl ?_
        exact hK20 _  h
def wp_Lamps_standsAt (X : ST) (p1 : Int32) (post : Int32 → ST → Prop) : Prop :=
  ∃ n, wp_Lamps_standsAt_2 (fun X1 => post 1 X1) (fun X2 => post 0 X2) post n X p1 0
set_option maxHeartbeats 4000000 in
set_option maxRecDepth 100000 in
theorem lb_Lamps_standsAt {κ : Cx} {g : Gx} {M : ST} (hκ : CF κ g RX2 cX2_standsAt wq_X2_standsAt 3 rm_Lamps_standsAt) {post : Int32 → ST → Prop} (hR : RtxZ κ g 3 cX2_standsAt M post) {X : ST} {p1 : Int32} (h : wp_Lamps_standsAt X p1 post) : Jw κ g 3 X M [(0, .ref (g.2.1 3)), (1, .int p1)] 0 [] := by
  unfold wp_Lamps_standsAt at h
  refine j_iconst (pc' := 1) (v := 0) hκ (by decide) dX2_standsAt_0 rfl ?_
  refine j_istore_n (pc' := 2) (lv' := [(2, .int 0), (0, .ref (g.2.1 3)), (1, .int p1)]) hκ (Nat.le_of_ble_eq_true rfl) rfl rfl dX2_standsAt_1 rfl ?_
  obtain ⟨n, h⟩ := h
  refine j_sub [1, 2, 0] rfl ?_
  refine lb_Lamps_standsAt_2 hκ hR ?_ ?_ n _ _ _  h
  · intro X1  h
    refine j_iconst (pc' := 21) (v := 1) hκ (by decide) dX2_standsAt_20 rfl ?_
    exact hR _ _ _ _ dX2_standsAt_21 (Or.inr rfl) h
  · intro X2  h
    refine j_iconst (pc' := 29) (v := 0) hκ (by decide) dX2_standsAt_28 rfl ?_
    exact hR _ _ _ _ dX2_standsAt_29 (Or.inl rfl) h
theorem c_Lamps_standsAt {g : Gx} (hg : Dg g) {X M : ST} {p1 : Int32} {post : Int32 → ST → Prop} (h : wp_Lamps_standsAt X p1 post) (l : Launch) : Met l yX2_standsAt wq_X2_standsAt rm_Lamps_standsAt (va_Pc [.ref (g.2.1 3), .int p1] (PU g X M)) (va_Qi post (fun Y t => va_P g.1 vwCl (ww g Y M) t.heap) (wA g)) 0 0 (wA g) :=
  met_xz hg (by decide) rfl [.ref (g.2.1 3), .int p1] rfl (Nat.le_of_ble_eq_true rfl) (fun κ hκ hR => lb_Lamps_standsAt hκ hR h) l
theorem wm_16_21 : Cond.methodLink RX9 165 yX2_standsAt ∈ wAll := inr_16 (List.mem_of_getElem? (i := 21) rfl)
theorem wm_16_22 : Cond.instanceMethod yX2_standsAt ∈ wAll := inr_16 (List.mem_of_getElem? (i := 22) rfl)
theorem wm_16_23 : Cond.selects RX2 yX2_standsAt yX2_standsAt ∈ wAll := inr_16 (List.mem_of_getElem? (i := 23) rfl)
theorem wm_1_23 : Cond.initialized RX2 ∈ wAll := inr_1 (List.mem_of_getElem? (i := 23) rfl)
theorem wm_17_0 : Cond.code yX2_standsAt cX2_standsAt 3 (some .boolean) ∈ wAll := inr_17 (List.mem_of_getElem? (i := 0) rfl)
theorem hqV_X2_standsAt : yX2_standsAt.cls = RX2 ∧ yX2_standsAt.cls ≠ "java/lang/invoke/MethodHandle" ∧ yX2_standsAt.cls ≠ "java/lang/invoke/VarHandle" ∧ (parseMethodDescriptor yX2_standsAt.desc).map (fun d => d.parameters.length) = some 1 := by decide +kernel
theorem wm_4_9 : Cond.fieldLink RX2 15 "LampRound$Lamps" "kinds" "[I" ∈ wAll := inr_4 (List.mem_of_getElem? (i := 9) rfl)
theorem wm_4_10 : Cond.fieldLink RX2 18 "LampRound$Lamps" "others" "[I" ∈ wAll := inr_4 (List.mem_of_getElem? (i := 10) rfl)
theorem wm_4_16 : Cond.fieldLink RX2 35 "LampRound$Lamps" "live" "I" ∈ wAll := inr_4 (List.mem_of_getElem? (i := 16) rfl)
abbrev rm_Lamps_raise : Room := { frames := 0, cells := 0, slots := 0, locals := 0 }
def wp_Lamps_raise (X : ST) (p1 : Int32) (p2 : Int32) (p3 : Int32) (post : Int32 → ST → Prop) : Prop :=
  ∀ v1 : Int32, v1 = x_Lamps_count X → vp_in v1 12 ∧ (∀ X2 : ST, X2 = xs_Lamps_crossings X (upd (x_Lamps_crossings X) v1.toNatClampNeg p1) → vp_in v1 12 ∧ (∀ X3 : ST, X3 = xs_Lamps_kinds X2 (upd (x_Lamps_kinds X2) v1.toNatClampNeg p2) → vp_in v1 12 ∧ (∀ X4 : ST, X4 = xs_Lamps_others X3 (upd (x_Lamps_others X3) v1.toNatClampNeg p3) → ∀ X5 : ST, X5 = xs_Lamps_live X4 ((x_Lamps_live X4) ||| ((1 : Int32) <<< (v1 &&& 31))) → ∀ X6 : ST, X6 = xs_Lamps_count X5 ((x_Lamps_count X5) + 1) → post v1 X6)))
set_option maxHeartbeats 4000000 in
set_option maxRecDepth 100000 in
theorem lb_Lamps_raise {κ : Cx} {g : Gx} {M : ST} (hκ : CF κ g RX2 cX2_raise wq_X2_raise 5 rm_Lamps_raise) {post : Int32 → ST → Prop} (hR : RtxI κ g 5 cX2_raise M post) {X : ST} {p1 : Int32} {p2 : Int32} {p3 : Int32} (h : wp_Lamps_raise X p1 p2 p3 post) : Jw κ g 5 X M [(0, .ref (g.2.1 3)), (1, .int p1), (2, .int p2), (3, .int p3)] 0 [] := by
  unfold wp_Lamps_raise at h
  refine j_aload_n (pc' := 1) hκ 0 rfl rfl dX2_raise_0 rfl ?_
  refine jg_3_9 (pc' := 4) hκ (mi inlX2) (fl_in hκ (mc wm_4_17)) dX2_raise_1 rfl ?_
  refine j_topi (fun v1 ev1 => ?_)
  replace h := h v1 ev1
  refine j_istore (pc' := 6) (lv' := [(4, .int v1), (0, .ref (g.2.1 3)), (1, .int p1), (2, .int p2), (3, .int p3)]) hκ (Nat.le_of_ble_eq_true rfl) rfl dX2_raise_4 rfl ?_
  refine j_aload_n (pc' := 7) hκ 1 rfl rfl dX2_raise_6 rfl ?_
  refine jg_3_1 (pc' := 10) hκ (mi inlX2) (fl_in hκ (mc wm_4_8)) dX2_raise_7 rfl ?_
  refine j_iload (pc' := 12) hκ 0 rfl dX2_raise_10 rfl ?_
  refine j_iload_n (pc' := 13) hκ 2 rfl rfl dX2_raise_12 rfl ?_
  refine jx_iast (pc' := 14) hκ (ah_20 g) h.1 dX2_raise_13 rfl ?_
  replace h := h.2
  refine j_nmX (fun X2 eX2 => ?_)
  replace h := h X2 eX2
  refine j_aload_n (pc' := 15) hκ 1 rfl rfl dX2_raise_14 rfl ?_
  refine jg_3_2 (pc' := 18) hκ (mi inlX2) (fl_in hκ (mc wm_4_9)) dX2_raise_15 rfl ?_
  refine j_iload (pc' := 20) hκ 0 rfl dX2_raise_18 rfl ?_
  refine j_iload_n (pc' := 21) hκ 3 rfl rfl dX2_raise_20 rfl ?_
  refine jx_iast (pc' := 22) hκ (ah_21 g) h.1 dX2_raise_21 rfl ?_
  replace h := h.2
  refine j_nmX (fun X3 eX3 => ?_)
  replace h := h X3 eX3
  refine j_aload_n (pc' := 23) hκ 1 rfl rfl dX2_raise_22 rfl ?_
  refine jg_3_3 (pc' := 26) hκ (mi inlX2) (fl_in hκ (mc wm_4_10)) dX2_raise_23 rfl ?_
  refine j_iload (pc' := 28) hκ 0 rfl dX2_raise_26 rfl ?_
  refine j_iload_n (pc' := 29) hκ 4 rfl rfl dX2_raise_28 rfl ?_
  refine jx_iast (pc' := 30) hκ (ah_22 g) h.1 dX2_raise_29 rfl ?_
  replace h := h.2
  refine j_nmX (fun X4 eX4 => ?_)
  replace h := h X4 eX4
  refine j_aload_n (pc' := 31) hκ 1 rfl rfl dX2_raise_30 rfl ?_
  refine j_dup (pc' := 32) hκ rfl dX2_raise_31 rfl ?_
  refine jg_3_8 (pc' := 35) hκ (mi inlX2) (fl_in hκ (mc wm_4_16)) dX2_raise_32 rfl ?_
  refine j_iconst (pc' := 36) (v := 1) hκ (by decide) dX2_raise_35 rfl ?_
  refine j_iload (pc' := 38) hκ 0 rfl dX2_raise_36 rfl ?_
  refine j_ishl (pc' := 39) hκ dX2_raise_38 rfl ?_
  refine j_ior (pc' := 40) hκ dX2_raise_39 rfl ?_
  refine jp_3_8 (pc' := 43) hκ (mi inlX2) (fl_in hκ (mc wm_4_16)) dX2_raise_40 rfl ?_
  refine j_nmX (fun X5 eX5 => ?_)
  replace h := h X5 eX5
  refine j_aload_n (pc' := 44) hκ 1 rfl rfl dX2_raise_43 rfl ?_
  refine j_dup (pc' := 45) hκ rfl dX2_raise_44 rfl ?_
  refine jg_3_9 (pc' := 48) hκ (mi inlX2) (fl_in hκ (mc wm_4_17)) dX2_raise_45 rfl ?_
  refine j_iconst (pc' := 49) (v := 1) hκ (by decide) dX2_raise_48 rfl ?_
  refine j_iadd (pc' := 50) hκ dX2_raise_49 rfl ?_
  refine jp_3_9 (pc' := 53) hκ (mi inlX2) (fl_in hκ (mc wm_4_17)) dX2_raise_50 rfl ?_
  refine j_nmX (fun X6 eX6 => ?_)
  replace h := h X6 eX6
  refine j_iload (pc' := 55) hκ 0 rfl dX2_raise_53 rfl ?_
  exact hR _ _ _ _ dX2_raise_55 h
theorem c_Lamps_raise {g : Gx} (hg : Dg g) {X M : ST} {p1 : Int32} {p2 : Int32} {p3 : Int32} {post : Int32 → ST → Prop} (h : wp_Lamps_raise X p1 p2 p3 post) (l : Launch) : Met l yX2_raise wq_X2_raise rm_Lamps_raise (va_Pc [.ref (g.2.1 3), .int p1, .int p2, .int p3] (PU g X M)) (va_Qi post (fun Y t => va_P g.1 vwCl (ww g Y M) t.heap) (wA g)) 0 0 (wA g) :=
  met_xi hg (by decide) rfl [.ref (g.2.1 3), .int p1, .int p2, .int p3] rfl (Nat.le_of_ble_eq_true rfl) (fun κ hκ hR => lb_Lamps_raise hκ hR h) l
theorem wm_17_5 : Cond.methodLink RX9 172 yX2_raise ∈ wAll := inr_17 (List.mem_of_getElem? (i := 5) rfl)
theorem wm_17_6 : Cond.instanceMethod yX2_raise ∈ wAll := inr_17 (List.mem_of_getElem? (i := 6) rfl)
theorem wm_17_7 : Cond.selects RX2 yX2_raise yX2_raise ∈ wAll := inr_17 (List.mem_of_getElem? (i := 7) rfl)
theorem wm_17_8 : Cond.code yX2_raise cX2_raise 5 (some .int) ∈ wAll := inr_17 (List.mem_of_getElem? (i := 8) rfl)
theorem hqV_X2_raise : yX2_raise.cls = RX2 ∧ yX2_raise.cls ≠ "java/lang/invoke/MethodHandle" ∧ yX2_raise.cls ≠ "java/lang/invoke/VarHandle" ∧ (parseMethodDescriptor yX2_raise.desc).map (fun d => d.parameters.length) = some 3 := by decide +kernel
abbrev rm_Lamps_isLamp : Room := { frames := 0, cells := 0, slots := 0, locals := 0 }
def wp_Lamps_isLamp (X : ST) (p1 : Int32) (post : Int32 → ST → Prop) : Prop :=
  (p1 < 0 → (post 0 X)) ∧ (¬ p1 < 0 → (((x_Lamps_count X) ≤ p1 → (post 0 X)) ∧ (¬ (x_Lamps_count X) ≤ p1 → (post 1 X))))
set_option maxHeartbeats 4000000 in
set_option maxRecDepth 100000 in
theorem lb_Lamps_isLamp {κ : Cx} {g : Gx} {M : ST} (hκ : CF κ g RX2 cX2_isLamp wq_X2_isLamp 2 rm_Lamps_isLamp) {post : Int32 → ST → Prop} (hR : RtxZ κ g 2 cX2_isLamp M post) {X : ST} {p1 : Int32} (h : wp_Lamps_isLamp X p1 post) : Jw κ g 2 X M [(0, .ref (g.2.1 3)), (1, .int p1)] 0 [] := by
  unfold wp_Lamps_isLamp at h
  refine j_iload_n (pc' := 1) hκ 1 rfl rfl dX2_isLamp_0 rfl ?_
  refine j_if_lt (tgt := 16) (pc' := 4) hκ dX2_isLamp_1 (by decide) rfl (fun c => ?_) (fun c => ?_)
  · replace h := h.1 c
    refine j_iconst (pc' := 17) (v := 0) hκ (by decide) dX2_isLamp_16 rfl ?_
    exact hR _ _ _ _ dX2_isLamp_17 (Or.inl rfl) h
  · replace h := h.2 c
    refine j_iload_n (pc' := 5) hκ 1 rfl rfl dX2_isLamp_4 rfl ?_
    refine j_aload_n (pc' := 6) hκ 0 rfl rfl dX2_isLamp_5 rfl ?_
    refine jg_3_9 (pc' := 9) hκ (mi inlX2) (fl_in hκ (mc wm_4_17)) dX2_isLamp_6 rfl ?_
    refine j_icmp_ge (tgt := 16) (pc' := 12) hκ dX2_isLamp_9 (by decide) rfl (fun c => ?_) (fun c => ?_)
    · replace h := h.1 c
      refine j_iconst (pc' := 17) (v := 0) hκ (by decide) dX2_isLamp_16 rfl ?_
      exact hR _ _ _ _ dX2_isLamp_17 (Or.inl rfl) h
    · replace h := h.2 c
      refine j_iconst (pc' := 13) (v := 1) hκ (by decide) dX2_isLamp_12 rfl ?_
      refine j_goto (pc' := 17) hκ (by decide) dX2_isLamp_13 ?_
      exact hR _ _ _ _ dX2_isLamp_17 (Or.inr rfl) h
theorem c_Lamps_isLamp {g : Gx} (hg : Dg g) {X M : ST} {p1 : Int32} {post : Int32 → ST → Prop} (h : wp_Lamps_isLamp X p1 post) (l : Launch) : Met l yX2_isLamp wq_X2_isLamp rm_Lamps_isLamp (va_Pc [.ref (g.2.1 3), .int p1] (PU g X M)) (va_Qi post (fun Y t => va_P g.1 vwCl (ww g Y M) t.heap) (wA g)) 0 0 (wA g) :=
  met_xz hg (by decide) rfl [.ref (g.2.1 3), .int p1] rfl (Nat.le_of_ble_eq_true rfl) (fun κ hκ hR => lb_Lamps_isLamp hκ hR h) l
theorem wm_17_1 : Cond.methodLink RX9 168 yX2_isLamp ∈ wAll := inr_17 (List.mem_of_getElem? (i := 1) rfl)
theorem wm_17_2 : Cond.instanceMethod yX2_isLamp ∈ wAll := inr_17 (List.mem_of_getElem? (i := 2) rfl)
theorem wm_17_3 : Cond.selects RX2 yX2_isLamp yX2_isLamp ∈ wAll := inr_17 (List.mem_of_getElem? (i := 3) rfl)
theorem wm_17_4 : Cond.code yX2_isLamp cX2_isLamp 2 (some .boolean) ∈ wAll := inr_17 (List.mem_of_getElem? (i := 4) rfl)
theorem hqV_X2_isLamp : yX2_isLamp.cls = RX2 ∧ yX2_isLamp.cls ≠ "java/lang/invoke/MethodHandle" ∧ yX2_isLamp.cls ≠ "java/lang/invoke/VarHandle" ∧ (parseMethodDescriptor yX2_isLamp.desc).map (fun d => d.parameters.length) = some 1 := by decide +kernel
abbrev rm_LR_lamp : Room := { frames := 2, cells := 0, slots := 0, locals := 41 }
def wp_LR_lamp_50 (post : Int32 → ST → Prop) (X : ST) (l1 : Int32) (l2 : Int32) (l3 : Int32) : Prop :=
  ((x_Lamps_count X) < 12 → (wp_Lamps_raise X l1 l2 l3 (fun r6 X5 => wp_LR_lampsChanged X5 (fun X7 => post r6 X7)))) ∧ (¬ (x_Lamps_count X) < 12 → (post (-2) X))
set_option maxHeartbeats 4000000 in
set_option maxRecDepth 100000 in
theorem lb_LR_lamp_50 {κ : Cx} {g : Gx} {M : ST} (hκ : CF κ g RX9 cX9_lamp wq_X9_lamp 5 rm_LR_lamp) {post : Int32 → ST → Prop} (hR : RtxI κ g 5 cX9_lamp M post) : ∀ (X : ST) (l1 : Int32) (l2 : Int32) (l3 : Int32), wp_LR_lamp_50 post X l1 l2 l3 → Jw κ g 5 X M [(0, .ref (g.2.1 0)), (1, .int l1), (2, .int l2), (3, .int l3)] 50 [] := by
  intro X l1 l2 l3  h
  unfold wp_LR_lamp_50 at h
  refine j_aload_n (pc' := 51) hκ 0 rfl rfl dX9_lamp_50 rfl ?_
  refine jg_0_2 (pc' := 54) hκ (mi inlX9) (fl_in hκ (mc wm_2_0)) dX9_lamp_51 rfl ?_
  refine jg_3_9 (pc' := 57) hκ (mi inlX2) (fl_ne hκ 8 rfl) dX9_lamp_54 rfl ?_
  refine j_bipush (pc' := 59) (v := 12) hκ (by decide) dX9_lamp_57 rfl ?_
  refine j_icmp_lt (tgt := 65) (pc' := 62) hκ dX9_lamp_59 (by decide) rfl (fun c => ?_) (fun c => ?_)
  · replace h := h.1 c
    refine j_aload_n (pc' := 66) hκ 0 rfl rfl dX9_lamp_65 rfl ?_
    refine jg_0_2 (pc' := 69) hκ (mi inlX9) (fl_in hκ (mc wm_2_0)) dX9_lamp_66 rfl ?_
    refine j_iload_n (pc' := 70) hκ 1 rfl rfl dX9_lamp_69 rfl ?_
    refine j_iload_n (pc' := 71) hκ 2 rfl rfl dX9_lamp_70 rfl ?_
    refine j_iload_n (pc' := 72) hκ 3 rfl rfl dX9_lamp_71 rfl ?_
    refine jx_callVi (pc' := 75) hκ (c_Lamps_raise (dg hκ) h) rfl rfl rfl (gV wm_17_5 wm_17_6 wm_17_7 wm_1_23 wm_17_8) hqV_X2_raise ⟨Nat.le_of_ble_eq_true rfl, Nat.le_of_ble_eq_true rfl⟩ (wg_3 g _ _) rfl rfl rfl (Nat.le_of_ble_eq_true rfl) dX9_lamp_72 rfl (fun r6 X5 h => ?_)
    refine j_istore (pc' := 77) (lv' := [(4, .int r6), (0, .ref (g.2.1 0)), (1, .int l1), (2, .int l2), (3, .int l3)]) hκ (Nat.le_of_ble_eq_true rfl) rfl dX9_lamp_75 rfl ?_
    refine j_aload_n (pc' := 78) hκ 1 rfl rfl dX9_lamp_77 rfl ?_
    refine jx_callVv (pc' := 81) hκ (c_LR_lampsChanged (dg hκ) h) rfl rfl rfl (gV wm_9_20 wm_9_21 wm_9_22 wm_1_2 wm_9_23) hqV_X9_lampsChanged ⟨Nat.le_of_ble_eq_true rfl, Nat.le_of_ble_eq_true rfl⟩ (wg_0 g _ _) rfl rfl rfl (Nat.le_of_ble_eq_true rfl) dX9_lamp_78 rfl (fun X7 h => ?_)
    refine j_iload (pc' := 83) hκ 0 rfl dX9_lamp_81 rfl ?_
    exact hR _ _ _ _ dX9_lamp_83 h
  · replace h := h.2 c
    refine j_bipush (pc' := 64) (v := (-2)) hκ (by decide) dX9_lamp_62 rfl ?_
    exact hR _ _ _ _ dX9_lamp_64 h
def wp_LR_lamp (X : ST) (p1 : Int32) (p2 : Int32) (p3 : Int32) (post : Int32 → ST → Prop) : Prop :=
  wp_LR_isCrossing X p1 (fun r2 X1 => (r2 = 0 → (post (-1) X1)) ∧ (¬ r2 = 0 → ((p2 < 0 → (post (-1) X1)) ∧ (¬ p2 < 0 → ((p2 ≤ 4 → (wp_Lamps_standsAt X1 p1 (fun r4 X3 => (r4 = 0 → ((¬ p2 = 1 → (wp_LR_lamp_50 post X3 p1 p2 p3)) ∧ (p2 = 1 → (wp_Lamps_isLamp X3 p3 (fun r10 X9 => (¬ r10 = 0 → (wp_LR_lamp_50 post X9 p1 p2 p3)) ∧ (r10 = 0 → (post (-1) X9))))))) ∧ (¬ r4 = 0 → (post (-4) X3))))) ∧ (¬ p2 ≤ 4 → (post (-1) X1)))))))
set_option maxHeartbeats 4000000 in
set_option maxRecDepth 100000 in
theorem lb_LR_lamp {κ : Cx} {g : Gx} {M : ST} (hκ : CF κ g RX9 cX9_lamp wq_X9_lamp 5 rm_LR_lamp) {post : Int32 → ST → Prop} (hR : RtxI κ g 5 cX9_lamp M post) {X : ST} {p1 : Int32} {p2 : Int32} {p3 : Int32} (h : wp_LR_lamp X p1 p2 p3 post) : Jw κ g 5 X M [(0, .ref (g.2.1 0)), (1, .int p1), (2, .int p2), (3, .int p3)] 0 [] := by
  unfold wp_LR_lamp at h
  refine j_iload_n (pc' := 1) hκ 1 rfl rfl dX9_lamp_0 rfl ?_
  refine jx_callSi (pc' := 4) hκ (c_LR_isCrossing (dg hκ) h) rfl rfl rfl (gS wm_9_1 wm_9_2 wm_1_2 wm_9_3) hqS_X9_isCrossing ⟨Nat.le_of_ble_eq_true rfl, Nat.le_of_ble_eq_true rfl⟩ rfl rfl (Nat.le_of_ble_eq_true rfl) dX9_lamp_1 rfl (fun r2 X1 h => ?_)
  refine j_if_eq (tgt := 16) (pc' := 7) hκ dX9_lamp_4 (by decide) rfl (fun c => ?_) (fun c => ?_)
  · replace h := h.1 c
    refine j_iconst (pc' := 17) (v := (-1)) hκ (by decide) dX9_lamp_16 rfl ?_
    exact hR _ _ _ _ dX9_lamp_17 h
  · replace h := h.2 c
    refine j_iload_n (pc' := 8) hκ 2 rfl rfl dX9_lamp_7 rfl ?_
    refine j_if_lt (tgt := 16) (pc' := 11) hκ dX9_lamp_8 (by decide) rfl (fun c => ?_) (fun c => ?_)
    · replace h := h.1 c
      refine j_iconst (pc' := 17) (v := (-1)) hκ (by decide) dX9_lamp_16 rfl ?_
      exact hR _ _ _ _ dX9_lamp_17 h
    · replace h := h.2 c
      refine j_iload_n (pc' := 12) hκ 2 rfl rfl dX9_lamp_11 rfl ?_
      refine j_iconst (pc' := 13) (v := 4) hκ (by decide) dX9_lamp_12 rfl ?_
      refine j_icmp_le (tgt := 18) (pc' := 16) hκ dX9_lamp_13 (by decide) rfl (fun c => ?_) (fun c => ?_)
      · replace h := h.1 c
        refine j_aload_n (pc' := 19) hκ 0 rfl rfl dX9_lamp_18 rfl ?_
        refine jg_0_2 (pc' := 22) hκ (mi inlX9) (fl_in hκ (mc wm_2_0)) dX9_lamp_19 rfl ?_
        refine j_iload_n (pc' := 23) hκ 1 rfl rfl dX9_lamp_22 rfl ?_
        refine jx_callVi (pc' := 26) hκ (c_Lamps_standsAt (dg hκ) h) rfl rfl rfl (gV wm_16_21 wm_16_22 wm_16_23 wm_1_23 wm_17_0) hqV_X2_standsAt ⟨Nat.le_of_ble_eq_true rfl, Nat.le_of_ble_eq_true rfl⟩ (wg_3 g _ _) rfl rfl rfl (Nat.le_of_ble_eq_true rfl) dX9_lamp_23 rfl (fun r4 X3 h => ?_)
        refine j_if_eq (tgt := 32) (pc' := 29) hκ dX9_lamp_26 (by decide) rfl (fun c => ?_) (fun c => ?_)
        · replace h := h.1 c
          refine j_iload_n (pc' := 33) hκ 2 rfl rfl dX9_lamp_32 rfl ?_
          refine j_iconst (pc' := 34) (v := 1) hκ (by decide) dX9_lamp_33 rfl ?_
          refine j_icmp_ne (tgt := 50) (pc' := 37) hκ dX9_lamp_34 (by decide) rfl (fun c => ?_) (fun c => ?_)
          · replace h := h.1 c
            refine lb_LR_lamp_50 hκ hR _ _ _ _  h
          · replace h := h.2 c
            refine j_aload_n (pc' := 38) hκ 0 rfl rfl dX9_lamp_37 rfl ?_
            refine jg_0_2 (pc' := 41) hκ (mi inlX9) (fl_in hκ (mc wm_2_0)) dX9_lamp_38 rfl ?_
            refine j_iload_n (pc' := 42) hκ 3 rfl rfl dX9_lamp_41 rfl ?_
            refine jx_callVi (pc' := 45) hκ (c_Lamps_isLamp (dg hκ) h) rfl rfl rfl (gV wm_17_1 wm_17_2 wm_17_3 wm_1_23 wm_17_4) hqV_X2_isLamp ⟨Nat.le_of_ble_eq_true rfl, Nat.le_of_ble_eq_true rfl⟩ (wg_3 g _ _) rfl rfl rfl (Nat.le_of_ble_eq_true rfl) dX9_lamp_42 rfl (fun r10 X9 h => ?_)
            refine j_if_ne (tgt := 50) (pc' := 48) hκ dX9_lamp_45 (by decide) rfl (fun c => ?_) (fun c => ?_)
            · replace h := h.1 c
              refine lb_LR_lamp_50 hκ hR _ _ _ _  h
            · replace h := h.2 c
              refine j_iconst (pc' := 49) (v := (-1)) hκ (by decide) dX9_lamp_48 rfl ?_
              exact hR _ _ _ _ dX9_lamp_49 h
        · replace h := h.2 c
          refine j_bipush (pc' := 31) (v := (-4)) hκ (by decide) dX9_lamp_29 rfl ?_
          exact hR _ _ _ _ dX9_lamp_31 h
      · replace h := h.2 c
        refine j_iconst (pc' := 17) (v := (-1)) hκ (by decide) dX9_lamp_16 rfl ?_
        exact hR _ _ _ _ dX9_lamp_17 h
theorem c_LR_lamp {g : Gx} (hg : Dg g) {X M : ST} {p1 : Int32} {p2 : Int32} {p3 : Int32} {post : Int32 → ST → Prop} (h : wp_LR_lamp X p1 p2 p3 post) (l : Launch) : Met l yX9_lamp wq_X9_lamp rm_LR_lamp (va_Pc [.ref (g.2.1 0), .int p1, .int p2, .int p3] (PU g X M)) (va_Qi post (fun Y t => va_P g.1 vwCl (ww g Y M) t.heap) (wA g)) 0 0 (wA g) :=
  met_xi hg (by decide) rfl [.ref (g.2.1 0), .int p1, .int p2, .int p3] rfl (Nat.le_of_ble_eq_true rfl) (fun κ hκ hR => lb_LR_lamp hκ hR h) l
theorem wm_18_2 : Cond.methodLink RX2 50 yX2_isLamp ∈ wAll := inr_18 (List.mem_of_getElem? (i := 2) rfl)
abbrev rm_LR_isIn : Room := { frames := 0, cells := 0, slots := 0, locals := 0 }
def wp_LR_isIn (X : ST) (p0 : Int32) (p1 : Int32) (post : Int32 → ST → Prop) : Prop :=
  (¬ ((p0 >>> (p1 &&& 31)) &&& 1) = 1 → (post 0 X)) ∧ (((p0 >>> (p1 &&& 31)) &&& 1) = 1 → (post 1 X))
set_option maxHeartbeats 4000000 in
set_option maxRecDepth 100000 in
theorem lb_LR_isIn {κ : Cx} {g : Gx} {M : ST} (hκ : CF κ g RX9 cX9_isIn wq_X9_isIn 2 rm_LR_isIn) {post : Int32 → ST → Prop} (hR : RtxZ κ g 2 cX9_isIn M post) {X : ST} {p0 : Int32} {p1 : Int32} (h : wp_LR_isIn X p0 p1 post) : Jw κ g 2 X M [(0, .int p0), (1, .int p1)] 0 [] := by
  unfold wp_LR_isIn at h
  refine j_iload_n (pc' := 1) hκ 0 rfl rfl dX9_isIn_0 rfl ?_
  refine j_iload_n (pc' := 2) hκ 1 rfl rfl dX9_isIn_1 rfl ?_
  refine j_ishr (pc' := 3) hκ dX9_isIn_2 rfl ?_
  refine j_iconst (pc' := 4) (v := 1) hκ (by decide) dX9_isIn_3 rfl ?_
  refine j_iand (pc' := 5) hκ dX9_isIn_4 rfl ?_
  refine j_iconst (pc' := 6) (v := 1) hκ (by decide) dX9_isIn_5 rfl ?_
  refine j_icmp_ne (tgt := 13) (pc' := 9) hκ dX9_isIn_6 (by decide) rfl (fun c => ?_) (fun c => ?_)
  · replace h := h.1 c
    refine j_iconst (pc' := 14) (v := 0) hκ (by decide) dX9_isIn_13 rfl ?_
    exact hR _ _ _ _ dX9_isIn_14 (Or.inl rfl) h
  · replace h := h.2 c
    refine j_iconst (pc' := 10) (v := 1) hκ (by decide) dX9_isIn_9 rfl ?_
    refine j_goto (pc' := 14) hκ (by decide) dX9_isIn_10 ?_
    exact hR _ _ _ _ dX9_isIn_14 (Or.inr rfl) h
theorem c_LR_isIn {g : Gx} (hg : Dg g) {X M : ST} {p0 : Int32} {p1 : Int32} {post : Int32 → ST → Prop} (h : wp_LR_isIn X p0 p1 post) (l : Launch) : Met l yX9_isIn wq_X9_isIn rm_LR_isIn (va_Pc [.int p0, .int p1] (PU g X M)) (va_Qi post (fun Y t => va_P g.1 vwCl (ww g Y M) t.heap) (wA g)) 0 0 (wA g) :=
  met_xz hg (by decide) rfl [.int p0, .int p1] rfl (Nat.le_of_ble_eq_true rfl) (fun κ hκ hR => lb_LR_isIn hκ hR h) l
theorem wm_18_4 : Cond.code yX9_isIn cX9_isIn 2 (some .boolean) ∈ wAll := inr_18 (List.mem_of_getElem? (i := 4) rfl)
theorem wm_18_3 : Cond.static yX9_isIn ∈ wAll := inr_18 (List.mem_of_getElem? (i := 3) rfl)
theorem hqS_X9_isIn : yX9_isIn.cls ≠ "java/lang/invoke/MethodHandle" ∧ yX9_isIn.cls ≠ "java/lang/invoke/VarHandle" ∧ (parseMethodDescriptor yX9_isIn.desc).map (fun d => d.parameters.length) = some 2 := by decide +kernel
abbrev rm_Lamps_isLive : Room := { frames := 1, cells := 0, slots := 0, locals := 21 }
def wp_Lamps_isLive (X : ST) (p1 : Int32) (post : Int32 → ST → Prop) : Prop :=
  wp_Lamps_isLamp X p1 (fun r2 X1 => (r2 = 0 → (post 0 X1)) ∧ (¬ r2 = 0 → (wp_LR_isIn X1 (x_Lamps_live X1) p1 (fun r4 X3 => (r4 = 0 → (post 0 X3)) ∧ (¬ r4 = 0 → (post 1 X3))))))
set_option maxHeartbeats 4000000 in
set_option maxRecDepth 100000 in
theorem lb_Lamps_isLive {κ : Cx} {g : Gx} {M : ST} (hκ : CF κ g RX2 cX2_isLive wq_X2_isLive 2 rm_Lamps_isLive) {post : Int32 → ST → Prop} (hR : RtxZ κ g 2 cX2_isLive M post) {X : ST} {p1 : Int32} (h : wp_Lamps_isLive X p1 post) : Jw κ g 2 X M [(0, .ref (g.2.1 3)), (1, .int p1)] 0 [] := by
  unfold wp_Lamps_isLive at h
  refine j_aload_n (pc' := 1) hκ 0 rfl rfl dX2_isLive_0 rfl ?_
  refine j_iload_n (pc' := 2) hκ 1 rfl rfl dX2_isLive_1 rfl ?_
  refine jx_callVi (pc' := 5) hκ (c_Lamps_isLamp (dg hκ) h) rfl rfl rfl (gV wm_18_2 wm_17_2 wm_17_3 wm_1_23 wm_17_4) hqV_X2_isLamp ⟨Nat.le_of_ble_eq_true rfl, Nat.le_of_ble_eq_true rfl⟩ (wg_3 g _ _) rfl rfl rfl (Nat.le_of_ble_eq_true rfl) dX2_isLive_2 rfl (fun r2 X1 h => ?_)
  refine j_if_eq (tgt := 23) (pc' := 8) hκ dX2_isLive_5 (by decide) rfl (fun c => ?_) (fun c => ?_)
  · replace h := h.1 c
    refine j_iconst (pc' := 24) (v := 0) hκ (by decide) dX2_isLive_23 rfl ?_
    exact hR _ _ _ _ dX2_isLive_24 (Or.inl rfl) h
  · replace h := h.2 c
    refine j_aload_n (pc' := 9) hκ 0 rfl rfl dX2_isLive_8 rfl ?_
    refine jg_3_8 (pc' := 12) hκ (mi inlX2) (fl_in hκ (mc wm_4_16)) dX2_isLive_9 rfl ?_
    refine j_iload_n (pc' := 13) hκ 1 rfl rfl dX2_isLive_12 rfl ?_
    refine jx_callNi (pc' := 16) hκ (c_LR_isIn (dg hκ) h) rfl rfl rfl (gN wm_18_4) 10 rfl (mc wm_1_2) (mc wm_18_3) hqS_X9_isIn ⟨Nat.le_of_ble_eq_true rfl, Nat.le_of_ble_eq_true rfl⟩ rfl rfl (Nat.le_of_ble_eq_true rfl) dX2_isLive_13 rfl (fun r4 X3 h => ?_)
    refine j_if_eq (tgt := 23) (pc' := 19) hκ dX2_isLive_16 (by decide) rfl (fun c => ?_) (fun c => ?_)
    · replace h := h.1 c
      refine j_iconst (pc' := 24) (v := 0) hκ (by decide) dX2_isLive_23 rfl ?_
      exact hR _ _ _ _ dX2_isLive_24 (Or.inl rfl) h
    · replace h := h.2 c
      refine j_iconst (pc' := 20) (v := 1) hκ (by decide) dX2_isLive_19 rfl ?_
      refine j_goto (pc' := 24) hκ (by decide) dX2_isLive_20 ?_
      exact hR _ _ _ _ dX2_isLive_24 (Or.inr rfl) h
theorem c_Lamps_isLive {g : Gx} (hg : Dg g) {X M : ST} {p1 : Int32} {post : Int32 → ST → Prop} (h : wp_Lamps_isLive X p1 post) (l : Launch) : Met l yX2_isLive wq_X2_isLive rm_Lamps_isLive (va_Pc [.ref (g.2.1 3), .int p1] (PU g X M)) (va_Qi post (fun Y t => va_P g.1 vwCl (ww g Y M) t.heap) (wA g)) 0 0 (wA g) :=
  met_xz hg (by decide) rfl [.ref (g.2.1 3), .int p1] rfl (Nat.le_of_ble_eq_true rfl) (fun κ hκ hR => lb_Lamps_isLive hκ hR h) l
theorem wm_17_22 : Cond.methodLink RX9 179 yX2_isLive ∈ wAll := inr_17 (List.mem_of_getElem? (i := 22) rfl)
theorem wm_17_23 : Cond.instanceMethod yX2_isLive ∈ wAll := inr_17 (List.mem_of_getElem? (i := 23) rfl)
theorem wm_18_0 : Cond.selects RX2 yX2_isLive yX2_isLive ∈ wAll := inr_18 (List.mem_of_getElem? (i := 0) rfl)
theorem wm_18_1 : Cond.code yX2_isLive cX2_isLive 2 (some .boolean) ∈ wAll := inr_18 (List.mem_of_getElem? (i := 1) rfl)
theorem hqV_X2_isLive : yX2_isLive.cls = RX2 ∧ yX2_isLive.cls ≠ "java/lang/invoke/MethodHandle" ∧ yX2_isLive.cls ≠ "java/lang/invoke/VarHandle" ∧ (parseMethodDescriptor yX2_isLive.desc).map (fun d => d.parameters.length) = some 1 := by decide +kernel
abbrev rm_Lamps_flip : Room := { frames := 0, cells := 0, slots := 0, locals := 0 }
def wp_Lamps_flip (X : ST) (p1 : Int32) (post : ST → Prop) : Prop :=
  ∀ X1 : ST, X1 = xs_Lamps_live X ((x_Lamps_live X) ^^^ ((1 : Int32) <<< (p1 &&& 31))) → post X1
set_option maxHeartbeats 4000000 in
set_option maxRecDepth 100000 in
theorem lb_Lamps_flip {κ : Cx} {g : Gx} {M : ST} (hκ : CF κ g RX2 cX2_flip wq_X2_flip 2 rm_Lamps_flip) {post : ST → Prop} (hR : RtxV κ g 2 cX2_flip M post) {X : ST} {p1 : Int32} (h : wp_Lamps_flip X p1 post) : Jw κ g 2 X M [(0, .ref (g.2.1 3)), (1, .int p1)] 0 [] := by
  unfold wp_Lamps_flip at h
  refine j_aload_n (pc' := 1) hκ 0 rfl rfl dX2_flip_0 rfl ?_
  refine j_dup (pc' := 2) hκ rfl dX2_flip_1 rfl ?_
  refine jg_3_8 (pc' := 5) hκ (mi inlX2) (fl_in hκ (mc wm_4_16)) dX2_flip_2 rfl ?_
  refine j_iconst (pc' := 6) (v := 1) hκ (by decide) dX2_flip_5 rfl ?_
  refine j_iload_n (pc' := 7) hκ 1 rfl rfl dX2_flip_6 rfl ?_
  refine j_ishl (pc' := 8) hκ dX2_flip_7 rfl ?_
  refine j_ixor (pc' := 9) hκ dX2_flip_8 rfl ?_
  refine jp_3_8 (pc' := 12) hκ (mi inlX2) (fl_in hκ (mc wm_4_16)) dX2_flip_9 rfl ?_
  refine j_nmX (fun X1 eX1 => ?_)
  replace h := h X1 eX1
  exact hR _ _ _ dX2_flip_12 h
theorem c_Lamps_flip {g : Gx} (hg : Dg g) {X M : ST} {p1 : Int32} {post : ST → Prop} (h : wp_Lamps_flip X p1 post) (l : Launch) : Met l yX2_flip wq_X2_flip rm_Lamps_flip (va_Pc [.ref (g.2.1 3), .int p1] (PU g X M)) (va_Qv post (fun Y t => va_P g.1 vwCl (ww g Y M) t.heap) (wA g)) 0 0 (wA g) :=
  met_xv hg (by decide) rfl [.ref (g.2.1 3), .int p1] rfl (Nat.le_of_ble_eq_true rfl) (fun κ hκ hR => lb_Lamps_flip hκ hR h) l
theorem wm_18_5 : Cond.methodLink RX9 182 yX2_flip ∈ wAll := inr_18 (List.mem_of_getElem? (i := 5) rfl)
theorem wm_18_6 : Cond.instanceMethod yX2_flip ∈ wAll := inr_18 (List.mem_of_getElem? (i := 6) rfl)
theorem wm_18_7 : Cond.selects RX2 yX2_flip yX2_flip ∈ wAll := inr_18 (List.mem_of_getElem? (i := 7) rfl)
theorem wm_18_8 : Cond.code yX2_flip cX2_flip 2 none ∈ wAll := inr_18 (List.mem_of_getElem? (i := 8) rfl)
theorem hqV_X2_flip : yX2_flip.cls = RX2 ∧ yX2_flip.cls ≠ "java/lang/invoke/MethodHandle" ∧ yX2_flip.cls ≠ "java/lang/invoke/VarHandle" ∧ (parseMethodDescriptor yX2_flip.desc).map (fun d => d.parameters.length) = some 1 := by decide +kernel
abbrev rm_LR_dark : Room := { frames := 2, cells := 0, slots := 0, locals := 42 }
def wp_LR_dark_42 (post : Int32 → ST → Prop) (X : ST) (l1 : Int32) (l2 : Int32) : Prop :=
  wp_Lamps_isLive X l1 (fun r4 X3 => (r4 = l2 → (wp_Lamps_flip X3 l1 (fun X5 => wp_LR_lampsChanged X5 (fun X7 => post 1 X7)))) ∧ (¬ r4 = l2 → (post 0 X3)))
set_option maxHeartbeats 4000000 in
set_option maxRecDepth 100000 in
theorem lb_LR_dark_42 {κ : Cx} {g : Gx} {M : ST} (hκ : CF κ g RX9 cX9_dark wq_X9_dark 3 rm_LR_dark) {post : Int32 → ST → Prop} (hR : RtxI κ g 3 cX9_dark M post) : ∀ (X : ST) (l1 : Int32) (l2 : Int32), wp_LR_dark_42 post X l1 l2 → Jw κ g 3 X M [(0, .ref (g.2.1 0)), (1, .int l1), (2, .int l2)] 42 [] := by
  intro X l1 l2  h
  unfold wp_LR_dark_42 at h
  refine j_aload_n (pc' := 43) hκ 0 rfl rfl dX9_dark_42 rfl ?_
  refine jg_0_2 (pc' := 46) hκ (mi inlX9) (fl_in hκ (mc wm_2_0)) dX9_dark_43 rfl ?_
  refine j_iload_n (pc' := 47) hκ 1 rfl rfl dX9_dark_46 rfl ?_
  refine jx_callVi (pc' := 50) hκ (c_Lamps_isLive (dg hκ) h) rfl rfl rfl (gV wm_17_22 wm_17_23 wm_18_0 wm_1_23 wm_18_1) hqV_X2_isLive ⟨Nat.le_of_ble_eq_true rfl, Nat.le_of_ble_eq_true rfl⟩ (wg_3 g _ _) rfl rfl rfl (Nat.le_of_ble_eq_true rfl) dX9_dark_47 rfl (fun r4 X3 h => ?_)
  refine j_iload_n (pc' := 51) hκ 2 rfl rfl dX9_dark_50 rfl ?_
  refine j_icmp_eq (tgt := 56) (pc' := 54) hκ dX9_dark_51 (by decide) rfl (fun c => ?_) (fun c => ?_)
  · replace h := h.1 c
    refine j_aload_n (pc' := 57) hκ 0 rfl rfl dX9_dark_56 rfl ?_
    refine jg_0_2 (pc' := 60) hκ (mi inlX9) (fl_in hκ (mc wm_2_0)) dX9_dark_57 rfl ?_
    refine j_iload_n (pc' := 61) hκ 1 rfl rfl dX9_dark_60 rfl ?_
    refine jx_callVv (pc' := 64) hκ (c_Lamps_flip (dg hκ) h) rfl rfl rfl (gV wm_18_5 wm_18_6 wm_18_7 wm_1_23 wm_18_8) hqV_X2_flip ⟨Nat.le_of_ble_eq_true rfl, Nat.le_of_ble_eq_true rfl⟩ (wg_3 g _ _) rfl rfl rfl (Nat.le_of_ble_eq_true rfl) dX9_dark_61 rfl (fun X5 h => ?_)
    refine j_aload_n (pc' := 65) hκ 0 rfl rfl dX9_dark_64 rfl ?_
    refine jx_callVv (pc' := 68) hκ (c_LR_lampsChanged (dg hκ) h) rfl rfl rfl (gV wm_9_20 wm_9_21 wm_9_22 wm_1_2 wm_9_23) hqV_X9_lampsChanged ⟨Nat.le_of_ble_eq_true rfl, Nat.le_of_ble_eq_true rfl⟩ (wg_0 g _ _) rfl rfl rfl (Nat.le_of_ble_eq_true rfl) dX9_dark_65 rfl (fun X7 h => ?_)
    refine j_iconst (pc' := 69) (v := 1) hκ (by decide) dX9_dark_68 rfl ?_
    exact hR _ _ _ _ dX9_dark_69 h
  · replace h := h.2 c
    refine j_iconst (pc' := 55) (v := 0) hκ (by decide) dX9_dark_54 rfl ?_
    exact hR _ _ _ _ dX9_dark_55 h
def wp_LR_dark (X : ST) (p1 : Int32) (p2 : Int32) (post : Int32 → ST → Prop) : Prop :=
  wp_Lamps_isLamp X p1 (fun r2 X1 => (¬ r2 = 0 → (vp_in p1 12 ∧ (((x_Lamps_kinds X1 p1.toNatClampNeg) = 3 → (wp_LR_dark_42 post X1 p1 p2)) ∧ (¬ (x_Lamps_kinds X1 p1.toNatClampNeg) = 3 → (vp_in p1 12 ∧ (((x_Lamps_kinds X1 p1.toNatClampNeg) = 4 → (wp_LR_dark_42 post X1 p1 p2)) ∧ (¬ (x_Lamps_kinds X1 p1.toNatClampNeg) = 4 → (post (-5) X1)))))))) ∧ (r2 = 0 → (post (-1) X1)))
set_option maxHeartbeats 4000000 in
set_option maxRecDepth 100000 in
theorem lb_LR_dark {κ : Cx} {g : Gx} {M : ST} (hκ : CF κ g RX9 cX9_dark wq_X9_dark 3 rm_LR_dark) {post : Int32 → ST → Prop} (hR : RtxI κ g 3 cX9_dark M post) {X : ST} {p1 : Int32} {p2 : Int32} (h : wp_LR_dark X p1 p2 post) : Jw κ g 3 X M [(0, .ref (g.2.1 0)), (1, .int p1), (2, .int p2)] 0 [] := by
  unfold wp_LR_dark at h
  refine j_aload_n (pc' := 1) hκ 0 rfl rfl dX9_dark_0 rfl ?_
  refine jg_0_2 (pc' := 4) hκ (mi inlX9) (fl_in hκ (mc wm_2_0)) dX9_dark_1 rfl ?_
  refine j_iload_n (pc' := 5) hκ 1 rfl rfl dX9_dark_4 rfl ?_
  refine jx_callVi (pc' := 8) hκ (c_Lamps_isLamp (dg hκ) h) rfl rfl rfl (gV wm_17_1 wm_17_2 wm_17_3 wm_1_23 wm_17_4) hqV_X2_isLamp ⟨Nat.le_of_ble_eq_true rfl, Nat.le_of_ble_eq_true rfl⟩ (wg_3 g _ _) rfl rfl rfl (Nat.le_of_ble_eq_true rfl) dX9_dark_5 rfl (fun r2 X1 h => ?_)
  refine j_if_ne (tgt := 13) (pc' := 11) hκ dX9_dark_8 (by decide) rfl (fun c => ?_) (fun c => ?_)
  · replace h := h.1 c
    refine j_aload_n (pc' := 14) hκ 0 rfl rfl dX9_dark_13 rfl ?_
    refine jg_0_2 (pc' := 17) hκ (mi inlX9) (fl_in hκ (mc wm_2_0)) dX9_dark_14 rfl ?_
    refine jg_3_2 (pc' := 20) hκ (mi inlX2) (fl_ne hκ 9 rfl) dX9_dark_17 rfl ?_
    refine j_iload_n (pc' := 21) hκ 1 rfl rfl dX9_dark_20 rfl ?_
    refine jx_iald (pc' := 22) hκ (ah_21 g) h.1 dX9_dark_21 rfl ?_
    replace h := h.2
    refine j_iconst (pc' := 23) (v := 3) hκ (by decide) dX9_dark_22 rfl ?_
    refine j_icmp_eq (tgt := 42) (pc' := 26) hκ dX9_dark_23 (by decide) rfl (fun c => ?_) (fun c => ?_)
    · replace h := h.1 c
      refine lb_LR_dark_42 hκ hR _ _ _  h
    · replace h := h.2 c
      refine j_aload_n (pc' := 27) hκ 0 rfl rfl dX9_dark_26 rfl ?_
      refine jg_0_2 (pc' := 30) hκ (mi inlX9) (fl_in hκ (mc wm_2_0)) dX9_dark_27 rfl ?_
      refine jg_3_2 (pc' := 33) hκ (mi inlX2) (fl_ne hκ 9 rfl) dX9_dark_30 rfl ?_
      refine j_iload_n (pc' := 34) hκ 1 rfl rfl dX9_dark_33 rfl ?_
      refine jx_iald (pc' := 35) hκ (ah_21 g) h.1 dX9_dark_34 rfl ?_
      replace h := h.2
      refine j_iconst (pc' := 36) (v := 4) hκ (by decide) dX9_dark_35 rfl ?_
      refine j_icmp_eq (tgt := 42) (pc' := 39) hκ dX9_dark_36 (by decide) rfl (fun c => ?_) (fun c => ?_)
      · replace h := h.1 c
        refine lb_LR_dark_42 hκ hR _ _ _  h
      · replace h := h.2 c
        refine j_bipush (pc' := 41) (v := (-5)) hκ (by decide) dX9_dark_39 rfl ?_
        exact hR _ _ _ _ dX9_dark_41 h
  · replace h := h.2 c
    refine j_iconst (pc' := 12) (v := (-1)) hκ (by decide) dX9_dark_11 rfl ?_
    exact hR _ _ _ _ dX9_dark_12 h
theorem c_LR_dark {g : Gx} (hg : Dg g) {X M : ST} {p1 : Int32} {p2 : Int32} {post : Int32 → ST → Prop} (h : wp_LR_dark X p1 p2 post) (l : Launch) : Met l yX9_dark wq_X9_dark rm_LR_dark (va_Pc [.ref (g.2.1 0), .int p1, .int p2] (PU g X M)) (va_Qi post (fun Y t => va_P g.1 vwCl (ww g Y M) t.heap) (wA g)) 0 0 (wA g) :=
  met_xi hg (by decide) rfl [.ref (g.2.1 0), .int p1, .int p2] rfl (Nat.le_of_ble_eq_true rfl) (fun κ hκ hR => lb_LR_dark hκ hR h) l
theorem wm_4_18 : Cond.fieldLink RX2 42 "LampRound$Lamps" "surveyed" "Z" ∈ wAll := inr_4 (List.mem_of_getElem? (i := 18) rfl)
theorem wm_4_19 : Cond.fieldLink RX2 46 "LampRound$Lamps" "town" "LLampRound$Town;" ∈ wAll := inr_4 (List.mem_of_getElem? (i := 19) rfl)
theorem wm_18_21 : Cond.methodLink RX2 67 yX7_waysFrom ∈ wAll := inr_18 (List.mem_of_getElem? (i := 21) rfl)
theorem wm_4_15 : Cond.fieldLink RX2 32 "LampRound$Lamps" "gaps" "[[I" ∈ wAll := inr_4 (List.mem_of_getElem? (i := 15) rfl)
theorem wm_4_13 : Cond.fieldLink RX2 27 "LampRound$Lamps" "needs" "[I" ∈ wAll := inr_4 (List.mem_of_getElem? (i := 13) rfl)
theorem wm_18_22 : Cond.methodLink RX2 73 yJ7_fill_53178 ∈ wAll := inr_18 (List.mem_of_getElem? (i := 22) rfl)
theorem wm_4_12 : Cond.fieldLink RX2 24 "LampRound$Lamps" "twins" "[I" ∈ wAll := inr_4 (List.mem_of_getElem? (i := 12) rfl)
theorem wm_19_7 : Cond.constant RX2 89 (1000000) ∈ wAll := inr_19 (List.mem_of_getElem? (i := 7) rfl)
abbrev rm_Lamps_nearest : Room := { frames := 0, cells := 0, slots := 0, locals := 0 }
def wp_Lamps_nearest_8_s (K55 : ST → Int32 → Prop) (post : Int32 → ST → Prop) (rec : ST → Int32 → Int32 → Int32 → Int32 → Prop) (X : ST) (l1 : Int32) (l2 : Int32) (l3 : Int32) (l4 : Int32) : Prop :=
  ((x_Lamps_count X) ≤ l4 → (K55 X l2)) ∧ (¬ (x_Lamps_count X) ≤ l4 → ((l4 = l1 → (rec X l1 l2 l3 (l4 + 1))) ∧ (¬ l4 = l1 → (vp_in l1 12 ∧ (vp_in l4 12 ∧ ((l3 ≤ (x_gaps X (l1.toNatClampNeg) l4.toNatClampNeg) → (rec X l1 l2 l3 (l4 + 1))) ∧ (¬ l3 ≤ (x_gaps X (l1.toNatClampNeg) l4.toNatClampNeg) → (vp_in l1 12 ∧ (vp_in l4 12 ∧ (∀ v3 : Int32, v3 = x_gaps X (l1.toNatClampNeg) l4.toNatClampNeg → rec X l1 l4 v3 (l4 + 1)))))))))))
def wp_Lamps_nearest_8 (K55 : ST → Int32 → Prop) (post : Int32 → ST → Prop) : Nat → ST → Int32 → Int32 → Int32 → Int32 → Prop
  | 0 => fun _ _ _ _ _ => False
  | n + 1 => wp_Lamps_nearest_8_s K55 post (wp_Lamps_nearest_8 K55 post n)
set_option maxHeartbeats 4000000 in
set_option maxRecDepth 100000 in
theorem lb_Lamps_nearest_8 {κ : Cx} {g : Gx} {M : ST} (hκ : CF κ g RX2 cX2_nearest wq_X2_nearest 5 rm_Lamps_nearest) {post : Int32 → ST → Prop} (hR : RtxI κ g 5 cX2_nearest M post) {K55 : ST → Int32 → Prop} (hK55 : ∀ (X : ST) (l2 : Int32), K55 X l2 → Jw κ g 5 X M [(2, .int l2)] 55 []) : ∀ (n : Nat) (X : ST) (l1 : Int32) (l2 : Int32) (l3 : Int32) (l4 : Int32), wp_Lamps_nearest_8 K55 post n X l1 l2 l3 l4 → Jw κ g 5 X M [(0, .ref (g.2.1 3)), (1, .int l1), (2, .int l2), (3, .int l3), (4, .int l4)] 8 [] := by
  intro n
  induction n with
  | zero =>
    intro X l1 l2 l3 l4  h
    exact h.elim
  | succ n ih =>
    intro X l1 l2 l3 l4  h
    have h : wp_Lamps_nearest_8_s K55 post (wp_Lamps_nearest_8 K55 post n) X l1 l2 l3 l4 := h
    unfold wp_Lamps_nearest_8_s at h
    refine j_iload (pc' := 10) hκ 4 rfl dX2_nearest_8 rfl ?_
    refine j_aload_n (pc' := 11) hκ 0 rfl rfl dX2_nearest_10 rfl ?_
    refine jg_3_9 (pc' := 14) hκ (mi inlX2) (fl_in hκ (mc wm_4_17)) dX2_nearest_11 rfl ?_
    refine j_icmp_ge (tgt := 55) (pc' := 17) hκ dX2_nearest_14 (by decide) rfl (fun c => ?_) (fun c => ?_)
    · replace h := h.1 c
      refine j_sub [2] rfl ?_
      exact hK55 _ _  h
    · replace h := h.2 c
      refine j_iload (pc' := 19) hκ 4 rfl dX2_nearest_17 rfl ?_
      refine j_iload_n (pc' := 20) hκ 1 rfl rfl dX2_nearest_19 rfl ?_
      refine j_icmp_eq (tgt := 49) (pc' := 23) hκ dX2_nearest_20 (by decide) rfl (fun c => ?_) (fun c => ?_)
      · replace h := h.1 c
        refine j_iinc (pc' := 52) (v := l4 + 1) (lv' := [(4, .int (l4 + 1)), (0, .ref (g.2.1 3)), (1, .int l1), (2, .int l2), (3, .int l3)]) hκ 4 rfl rfl (Nat.le_of_ble_eq_true rfl) rfl dX2_nearest_49 rfl ?_
        refine j_goto (pc' := 8) hκ (by decide) dX2_nearest_52 ?_
        refine j_sub [1, 2, 3, 4, 0] rfl ?_
        exact ih _ _ _ _ _  h
      · replace h := h.2 c
        refine j_aload_n (pc' := 24) hκ 0 rfl rfl dX2_nearest_23 rfl ?_
        refine jg_3_7 (pc' := 27) hκ (mi inlX2) (fl_in hκ (mc wm_4_15)) dX2_nearest_24 rfl ?_
        refine j_iload_n (pc' := 28) hκ 1 rfl rfl dX2_nearest_27 rfl ?_
        refine j_aald (pc' := 29) (q := 26) (t := 3) hκ (wg_26 g _ _) rfl h.1 dX2_nearest_28 rfl ?_
        have hr1 : l1.toNatClampNeg < 12 := Nat.not_le.mp fun q => h.1 (Or.inr q)
        replace h := h.2
        refine j_iload (pc' := 31) hκ 4 rfl dX2_nearest_29 rfl ?_
        refine jx_iald (pc' := 32) hκ (ah_gaps g hr1) h.1 dX2_nearest_31 rfl ?_
        replace h := h.2
        refine j_iload_n (pc' := 33) hκ 3 rfl rfl dX2_nearest_32 rfl ?_
        refine j_icmp_ge (tgt := 49) (pc' := 36) hκ dX2_nearest_33 (by decide) rfl (fun c => ?_) (fun c => ?_)
        · replace h := h.1 c
          refine j_iinc (pc' := 52) (v := l4 + 1) (lv' := [(4, .int (l4 + 1)), (0, .ref (g.2.1 3)), (1, .int l1), (2, .int l2), (3, .int l3)]) hκ 4 rfl rfl (Nat.le_of_ble_eq_true rfl) rfl dX2_nearest_49 rfl ?_
          refine j_goto (pc' := 8) hκ (by decide) dX2_nearest_52 ?_
          refine j_sub [1, 2, 3, 4, 0] rfl ?_
          exact ih _ _ _ _ _  h
        · replace h := h.2 c
          refine j_iload (pc' := 38) hκ 4 rfl dX2_nearest_36 rfl ?_
          refine j_istore_n (pc' := 39) (lv' := [(2, .int l4), (0, .ref (g.2.1 3)), (1, .int l1), (3, .int l3), (4, .int l4)]) hκ (Nat.le_of_ble_eq_true rfl) rfl rfl dX2_nearest_38 rfl ?_
          refine j_aload_n (pc' := 40) hκ 1 rfl rfl dX2_nearest_39 rfl ?_
          refine jg_3_7 (pc' := 43) hκ (mi inlX2) (fl_in hκ (mc wm_4_15)) dX2_nearest_40 rfl ?_
          refine j_iload_n (pc' := 44) hκ 2 rfl rfl dX2_nearest_43 rfl ?_
          refine j_aald (pc' := 45) (q := 26) (t := 3) hκ (wg_26 g _ _) rfl h.1 dX2_nearest_44 rfl ?_
          have hr2 : l1.toNatClampNeg < 12 := Nat.not_le.mp fun q => h.1 (Or.inr q)
          replace h := h.2
          refine j_iload (pc' := 47) hκ 4 rfl dX2_nearest_45 rfl ?_
          refine jx_iald (pc' := 48) hκ (ah_gaps g hr2) h.1 dX2_nearest_47 rfl ?_
          replace h := h.2
          refine j_topi (fun v3 ev3 => ?_)
          replace h := h v3 ev3
          refine j_istore_n (pc' := 49) (lv' := [(3, .int v3), (2, .int l4), (0, .ref (g.2.1 3)), (1, .int l1), (4, .int l4)]) hκ (Nat.le_of_ble_eq_true rfl) rfl rfl dX2_nearest_48 rfl ?_
          refine j_iinc (pc' := 52) (v := l4 + 1) (lv' := [(4, .int (l4 + 1)), (3, .int v3), (2, .int l4), (0, .ref (g.2.1 3)), (1, .int l1)]) hκ 4 rfl rfl (Nat.le_of_ble_eq_true rfl) rfl dX2_nearest_49 rfl ?_
          refine j_goto (pc' := 8) hκ (by decide) dX2_nearest_52 ?_
          refine j_sub [3, 4, 2, 1, 0] rfl ?_
          exact ih _ _ _ _ _  h
def wp_Lamps_nearest (X : ST) (p1 : Int32) (post : Int32 → ST → Prop) : Prop :=
  ∃ n, wp_Lamps_nearest_8 (fun X4 v5 => post v5 X4) post n X p1 (-1) 1000000 0
set_option maxHeartbeats 4000000 in
set_option maxRecDepth 100000 in
theorem lb_Lamps_nearest {κ : Cx} {g : Gx} {M : ST} (hκ : CF κ g RX2 cX2_nearest wq_X2_nearest 5 rm_Lamps_nearest) {post : Int32 → ST → Prop} (hR : RtxI κ g 5 cX2_nearest M post) {X : ST} {p1 : Int32} (h : wp_Lamps_nearest X p1 post) : Jw κ g 5 X M [(0, .ref (g.2.1 3)), (1, .int p1)] 0 [] := by
  unfold wp_Lamps_nearest at h
  refine j_iconst (pc' := 1) (v := (-1)) hκ (by decide) dX2_nearest_0 rfl ?_
  refine j_istore_n (pc' := 2) (lv' := [(2, .int (-1)), (0, .ref (g.2.1 3)), (1, .int p1)]) hκ (Nat.le_of_ble_eq_true rfl) rfl rfl dX2_nearest_1 rfl ?_
  refine j_ldc (pc' := 4) hκ (mc wm_19_7) dX2_nearest_2 rfl ?_
  refine j_istore_n (pc' := 5) (lv' := [(3, .int 1000000), (2, .int (-1)), (0, .ref (g.2.1 3)), (1, .int p1)]) hκ (Nat.le_of_ble_eq_true rfl) rfl rfl dX2_nearest_4 rfl ?_
  refine j_iconst (pc' := 6) (v := 0) hκ (by decide) dX2_nearest_5 rfl ?_
  refine j_istore (pc' := 8) (lv' := [(4, .int 0), (3, .int 1000000), (2, .int (-1)), (0, .ref (g.2.1 3)), (1, .int p1)]) hκ (Nat.le_of_ble_eq_true rfl) rfl dX2_nearest_6 rfl ?_
  obtain ⟨n, h⟩ := h
  refine j_sub [3, 4, 2, 1, 0] rfl ?_
  refine lb_Lamps_nearest_8 hκ hR ?_ n _ _ _ _ _  h
  intro X4 v5  h
  refine j_iload_n (pc' := 56) hκ 0 rfl rfl dX2_nearest_55 rfl ?_
  exact hR _ _ _ _ dX2_nearest_56 h
theorem c_Lamps_nearest {g : Gx} (hg : Dg g) {X M : ST} {p1 : Int32} {post : Int32 → ST → Prop} (h : wp_Lamps_nearest X p1 post) (l : Launch) : Met l yX2_nearest wq_X2_nearest rm_Lamps_nearest (va_Pc [.ref (g.2.1 3), .int p1] (PU g X M)) (va_Qi post (fun Y t => va_P g.1 vwCl (ww g Y M) t.heap) (wA g)) 0 0 (wA g) :=
  met_xi hg (by decide) rfl [.ref (g.2.1 3), .int p1] rfl (Nat.le_of_ble_eq_true rfl) (fun κ hκ hR => lb_Lamps_nearest hκ hR h) l
theorem wm_19_3 : Cond.methodLink RX2 86 yX2_nearest ∈ wAll := inr_19 (List.mem_of_getElem? (i := 3) rfl)
theorem wm_19_4 : Cond.instanceMethod yX2_nearest ∈ wAll := inr_19 (List.mem_of_getElem? (i := 4) rfl)
theorem wm_19_5 : Cond.selects RX2 yX2_nearest yX2_nearest ∈ wAll := inr_19 (List.mem_of_getElem? (i := 5) rfl)
theorem wm_19_6 : Cond.code yX2_nearest cX2_nearest 5 (some .int) ∈ wAll := inr_19 (List.mem_of_getElem? (i := 6) rfl)
theorem hqV_X2_nearest : yX2_nearest.cls = RX2 ∧ yX2_nearest.cls ≠ "java/lang/invoke/MethodHandle" ∧ yX2_nearest.cls ≠ "java/lang/invoke/VarHandle" ∧ (parseMethodDescriptor yX2_nearest.desc).map (fun d => d.parameters.length) = some 1 := by decide +kernel
abbrev rm_Lamps_twinOf : Room := { frames := 1, cells := 0, slots := 0, locals := 24 }
def wp_Lamps_twinOf (X : ST) (p1 : Int32) (post : Int32 → ST → Prop) : Prop :=
  vp_in p1 12 ∧ ((¬ (x_Lamps_kinds X p1.toNatClampNeg) = 1 → (vp_in p1 12 ∧ ((¬ (x_Lamps_kinds X p1.toNatClampNeg) = 2 → (post (-1) X)) ∧ ((x_Lamps_kinds X p1.toNatClampNeg) = 2 → (wp_Lamps_nearest X p1 (fun r2 X1 => post r2 X1)))))) ∧ ((x_Lamps_kinds X p1.toNatClampNeg) = 1 → (vp_in p1 12 ∧ (post (x_Lamps_others X p1.toNatClampNeg) X))))
set_option maxHeartbeats 4000000 in
set_option maxRecDepth 100000 in
theorem lb_Lamps_twinOf {κ : Cx} {g : Gx} {M : ST} (hκ : CF κ g RX2 cX2_twinOf wq_X2_twinOf 2 rm_Lamps_twinOf) {post : Int32 → ST → Prop} (hR : RtxI κ g 2 cX2_twinOf M post) {X : ST} {p1 : Int32} (h : wp_Lamps_twinOf X p1 post) : Jw κ g 2 X M [(0, .ref (g.2.1 3)), (1, .int p1)] 0 [] := by
  unfold wp_Lamps_twinOf at h
  refine j_aload_n (pc' := 1) hκ 0 rfl rfl dX2_twinOf_0 rfl ?_
  refine jg_3_2 (pc' := 4) hκ (mi inlX2) (fl_in hκ (mc wm_4_9)) dX2_twinOf_1 rfl ?_
  refine j_iload_n (pc' := 5) hκ 1 rfl rfl dX2_twinOf_4 rfl ?_
  refine jx_iald (pc' := 6) hκ (ah_21 g) h.1 dX2_twinOf_5 rfl ?_
  replace h := h.2
  refine j_iconst (pc' := 7) (v := 1) hκ (by decide) dX2_twinOf_6 rfl ?_
  refine j_icmp_ne (tgt := 17) (pc' := 10) hκ dX2_twinOf_7 (by decide) rfl (fun c => ?_) (fun c => ?_)
  · replace h := h.1 c
    refine j_aload_n (pc' := 18) hκ 0 rfl rfl dX2_twinOf_17 rfl ?_
    refine jg_3_2 (pc' := 21) hκ (mi inlX2) (fl_in hκ (mc wm_4_9)) dX2_twinOf_18 rfl ?_
    refine j_iload_n (pc' := 22) hκ 1 rfl rfl dX2_twinOf_21 rfl ?_
    refine jx_iald (pc' := 23) hκ (ah_21 g) h.1 dX2_twinOf_22 rfl ?_
    replace h := h.2
    refine j_iconst (pc' := 24) (v := 2) hκ (by decide) dX2_twinOf_23 rfl ?_
    refine j_icmp_ne (tgt := 35) (pc' := 27) hκ dX2_twinOf_24 (by decide) rfl (fun c => ?_) (fun c => ?_)
    · replace h := h.1 c
      refine j_iconst (pc' := 36) (v := (-1)) hκ (by decide) dX2_twinOf_35 rfl ?_
      exact hR _ _ _ _ dX2_twinOf_36 h
    · replace h := h.2 c
      refine j_aload_n (pc' := 28) hκ 0 rfl rfl dX2_twinOf_27 rfl ?_
      refine j_iload_n (pc' := 29) hκ 1 rfl rfl dX2_twinOf_28 rfl ?_
      refine jx_callVi (pc' := 32) hκ (c_Lamps_nearest (dg hκ) h) rfl rfl rfl (gV wm_19_3 wm_19_4 wm_19_5 wm_1_23 wm_19_6) hqV_X2_nearest ⟨Nat.le_of_ble_eq_true rfl, Nat.le_of_ble_eq_true rfl⟩ (wg_3 g _ _) rfl rfl rfl (Nat.le_of_ble_eq_true rfl) dX2_twinOf_29 rfl (fun r2 X1 h => ?_)
      refine j_goto (pc' := 36) hκ (by decide) dX2_twinOf_32 ?_
      exact hR _ _ _ _ dX2_twinOf_36 h
  · replace h := h.2 c
    refine j_aload_n (pc' := 11) hκ 0 rfl rfl dX2_twinOf_10 rfl ?_
    refine jg_3_3 (pc' := 14) hκ (mi inlX2) (fl_in hκ (mc wm_4_10)) dX2_twinOf_11 rfl ?_
    refine j_iload_n (pc' := 15) hκ 1 rfl rfl dX2_twinOf_14 rfl ?_
    refine jx_iald (pc' := 16) hκ (ah_22 g) h.1 dX2_twinOf_15 rfl ?_
    replace h := h.2
    exact hR _ _ _ _ dX2_twinOf_16 h
theorem c_Lamps_twinOf {g : Gx} (hg : Dg g) {X M : ST} {p1 : Int32} {post : Int32 → ST → Prop} (h : wp_Lamps_twinOf X p1 post) (l : Launch) : Met l yX2_twinOf wq_X2_twinOf rm_Lamps_twinOf (va_Pc [.ref (g.2.1 3), .int p1] (PU g X M)) (va_Qi post (fun Y t => va_P g.1 vwCl (ww g Y M) t.heap) (wA g)) 0 0 (wA g) :=
  met_xi hg (by decide) rfl [.ref (g.2.1 3), .int p1] rfl (Nat.le_of_ble_eq_true rfl) (fun κ hκ hR => lb_Lamps_twinOf hκ hR h) l
theorem wm_18_23 : Cond.methodLink RX2 79 yX2_twinOf ∈ wAll := inr_18 (List.mem_of_getElem? (i := 23) rfl)
theorem wm_19_0 : Cond.instanceMethod yX2_twinOf ∈ wAll := inr_19 (List.mem_of_getElem? (i := 0) rfl)
theorem wm_19_1 : Cond.selects RX2 yX2_twinOf yX2_twinOf ∈ wAll := inr_19 (List.mem_of_getElem? (i := 1) rfl)
theorem wm_19_2 : Cond.code yX2_twinOf cX2_twinOf 2 (some .int) ∈ wAll := inr_19 (List.mem_of_getElem? (i := 2) rfl)
theorem hqV_X2_twinOf : yX2_twinOf.cls = RX2 ∧ yX2_twinOf.cls ≠ "java/lang/invoke/MethodHandle" ∧ yX2_twinOf.cls ≠ "java/lang/invoke/VarHandle" ∧ (parseMethodDescriptor yX2_twinOf.desc).map (fun d => d.parameters.length) = some 1 := by decide +kernel
theorem wm_19_12 : Cond.methodLink RX2 90 yX2_isLive ∈ wAll := inr_19 (List.mem_of_getElem? (i := 12) rfl)
abbrev rm_Lamps_tieTwins : Room := { frames := 2, cells := 0, slots := 0, locals := 42 }
def wp_Lamps_tieTwins (X : ST) (p1 : Int32) (p2 : Int32) (post : ST → Prop) : Prop :=
  wp_Lamps_isLive X p1 (fun r2 X1 => (r2 = 0 → (post X1)) ∧ (¬ r2 = 0 → (wp_Lamps_isLive X1 p2 (fun r4 X3 => (r4 = 0 → (post X3)) ∧ (¬ r4 = 0 → (vp_in p1 12 ∧ (vp_in p1 12 ∧ (∀ X5 : ST, X5 = xs_Lamps_needs X3 (upd (x_Lamps_needs X3) p1.toNatClampNeg ((x_Lamps_needs X3 p1.toNatClampNeg) ||| ((1 : Int32) <<< (p2 &&& 31)))) → vp_in p2 12 ∧ (vp_in p2 12 ∧ (∀ X6 : ST, X6 = xs_Lamps_needs X5 (upd (x_Lamps_needs X5) p2.toNatClampNeg ((x_Lamps_needs X5 p2.toNatClampNeg) ||| ((1 : Int32) <<< (p1 &&& 31)))) → post X6))))))))))
set_option maxHeartbeats 4000000 in
set_option maxRecDepth 100000 in
theorem lb_Lamps_tieTwins {κ : Cx} {g : Gx} {M : ST} (hκ : CF κ g RX2 cX2_tieTwins wq_X2_tieTwins 3 rm_Lamps_tieTwins) {post : ST → Prop} (hR : RtxV κ g 3 cX2_tieTwins M post) {X : ST} {p1 : Int32} {p2 : Int32} (h : wp_Lamps_tieTwins X p1 p2 post) : Jw κ g 3 X M [(0, .ref (g.2.1 3)), (1, .int p1), (2, .int p2)] 0 [] := by
  unfold wp_Lamps_tieTwins at h
  refine j_aload_n (pc' := 1) hκ 0 rfl rfl dX2_tieTwins_0 rfl ?_
  refine j_iload_n (pc' := 2) hκ 1 rfl rfl dX2_tieTwins_1 rfl ?_
  refine jx_callVi (pc' := 5) hκ (c_Lamps_isLive (dg hκ) h) rfl rfl rfl (gV wm_19_12 wm_17_23 wm_18_0 wm_1_23 wm_18_1) hqV_X2_isLive ⟨Nat.le_of_ble_eq_true rfl, Nat.le_of_ble_eq_true rfl⟩ (wg_3 g _ _) rfl rfl rfl (Nat.le_of_ble_eq_true rfl) dX2_tieTwins_2 rfl (fun r2 X1 h => ?_)
  refine j_if_eq (tgt := 40) (pc' := 8) hκ dX2_tieTwins_5 (by decide) rfl (fun c => ?_) (fun c => ?_)
  · replace h := h.1 c
    exact hR _ _ _ dX2_tieTwins_40 h
  · replace h := h.2 c
    refine j_aload_n (pc' := 9) hκ 0 rfl rfl dX2_tieTwins_8 rfl ?_
    refine j_iload_n (pc' := 10) hκ 2 rfl rfl dX2_tieTwins_9 rfl ?_
    refine jx_callVi (pc' := 13) hκ (c_Lamps_isLive (dg hκ) h) rfl rfl rfl (gV wm_19_12 wm_17_23 wm_18_0 wm_1_23 wm_18_1) hqV_X2_isLive ⟨Nat.le_of_ble_eq_true rfl, Nat.le_of_ble_eq_true rfl⟩ (wg_3 g _ _) rfl rfl rfl (Nat.le_of_ble_eq_true rfl) dX2_tieTwins_10 rfl (fun r4 X3 h => ?_)
    refine j_if_eq (tgt := 40) (pc' := 16) hκ dX2_tieTwins_13 (by decide) rfl (fun c => ?_) (fun c => ?_)
    · replace h := h.1 c
      exact hR _ _ _ dX2_tieTwins_40 h
    · replace h := h.2 c
      refine j_aload_n (pc' := 17) hκ 0 rfl rfl dX2_tieTwins_16 rfl ?_
      refine jg_3_6 (pc' := 20) hκ (mi inlX2) (fl_in hκ (mc wm_4_13)) dX2_tieTwins_17 rfl ?_
      refine j_iload_n (pc' := 21) hκ 1 rfl rfl dX2_tieTwins_20 rfl ?_
      refine j_dup2 (pc' := 22) hκ rfl rfl dX2_tieTwins_21 rfl ?_
      refine jx_iald (pc' := 23) hκ (ah_25 g) h.1 dX2_tieTwins_22 rfl ?_
      replace h := h.2
      refine j_iconst (pc' := 24) (v := 1) hκ (by decide) dX2_tieTwins_23 rfl ?_
      refine j_iload_n (pc' := 25) hκ 2 rfl rfl dX2_tieTwins_24 rfl ?_
      refine j_ishl (pc' := 26) hκ dX2_tieTwins_25 rfl ?_
      refine j_ior (pc' := 27) hκ dX2_tieTwins_26 rfl ?_
      refine jx_iast (pc' := 28) hκ (ah_25 g) h.1 dX2_tieTwins_27 rfl ?_
      replace h := h.2
      refine j_nmX (fun X5 eX5 => ?_)
      replace h := h X5 eX5
      refine j_aload_n (pc' := 29) hκ 0 rfl rfl dX2_tieTwins_28 rfl ?_
      refine jg_3_6 (pc' := 32) hκ (mi inlX2) (fl_in hκ (mc wm_4_13)) dX2_tieTwins_29 rfl ?_
      refine j_iload_n (pc' := 33) hκ 2 rfl rfl dX2_tieTwins_32 rfl ?_
      refine j_dup2 (pc' := 34) hκ rfl rfl dX2_tieTwins_33 rfl ?_
      refine jx_iald (pc' := 35) hκ (ah_25 g) h.1 dX2_tieTwins_34 rfl ?_
      replace h := h.2
      refine j_iconst (pc' := 36) (v := 1) hκ (by decide) dX2_tieTwins_35 rfl ?_
      refine j_iload_n (pc' := 37) hκ 1 rfl rfl dX2_tieTwins_36 rfl ?_
      refine j_ishl (pc' := 38) hκ dX2_tieTwins_37 rfl ?_
      refine j_ior (pc' := 39) hκ dX2_tieTwins_38 rfl ?_
      refine jx_iast (pc' := 40) hκ (ah_25 g) h.1 dX2_tieTwins_39 rfl ?_
      replace h := h.2
      refine j_nmX (fun X6 eX6 => ?_)
      replace h := h X6 eX6
      exact hR _ _ _ dX2_tieTwins_40 h
theorem c_Lamps_tieTwins {g : Gx} (hg : Dg g) {X M : ST} {p1 : Int32} {p2 : Int32} {post : ST → Prop} (h : wp_Lamps_tieTwins X p1 p2 post) (l : Launch) : Met l yX2_tieTwins wq_X2_tieTwins rm_Lamps_tieTwins (va_Pc [.ref (g.2.1 3), .int p1, .int p2] (PU g X M)) (va_Qv post (fun Y t => va_P g.1 vwCl (ww g Y M) t.heap) (wA g)) 0 0 (wA g) :=
  met_xv hg (by decide) rfl [.ref (g.2.1 3), .int p1, .int p2] rfl (Nat.le_of_ble_eq_true rfl) (fun κ hκ hR => lb_Lamps_tieTwins hκ hR h) l
theorem wm_19_8 : Cond.methodLink RX2 82 yX2_tieTwins ∈ wAll := inr_19 (List.mem_of_getElem? (i := 8) rfl)
theorem wm_19_9 : Cond.instanceMethod yX2_tieTwins ∈ wAll := inr_19 (List.mem_of_getElem? (i := 9) rfl)
theorem wm_19_10 : Cond.selects RX2 yX2_tieTwins yX2_tieTwins ∈ wAll := inr_19 (List.mem_of_getElem? (i := 10) rfl)
theorem wm_19_11 : Cond.code yX2_tieTwins cX2_tieTwins 3 none ∈ wAll := inr_19 (List.mem_of_getElem? (i := 11) rfl)
theorem hqV_X2_tieTwins : yX2_tieTwins.cls = RX2 ∧ yX2_tieTwins.cls ≠ "java/lang/invoke/MethodHandle" ∧ yX2_tieTwins.cls ≠ "java/lang/invoke/VarHandle" ∧ (parseMethodDescriptor yX2_tieTwins.desc).map (fun d => d.parameters.length) = some 2 := by decide +kernel
abbrev rm_Lamps_survey : Room := { frames := 3, cells := 0, slots := 0, locals := 70 }
def wp_Lamps_survey_34_s (K64 : ST → Int32 → Prop) (post : ST → Prop) (rec : ST → Int32 → Nat → Int32 → Prop) (X : ST) (l1 : Int32) (l2 : Nat) (l3 : Int32) : Prop :=
  ((x_Lamps_count X) ≤ l3 → (K64 X l1)) ∧ (¬ (x_Lamps_count X) ≤ l3 → (vp_in l1 12 ∧ (vp_in l3 12 ∧ (vp_in (x_Lamps_crossings X l3.toNatClampNeg) 40 ∧ (vp_in l3 12 ∧ (∀ X4 : ST, X4 = xs_gaps X (l1.toNatClampNeg) (upd (x_gaps X (l1.toNatClampNeg)) l3.toNatClampNeg (x_ways X l2 (x_Lamps_crossings X l3.toNatClampNeg).toNatClampNeg)) → rec X4 l1 l2 (l3 + 1)))))))
def wp_Lamps_survey_34 (K64 : ST → Int32 → Prop) (post : ST → Prop) : Nat → ST → Int32 → Nat → Int32 → Prop
  | 0 => fun _ _ _ _ => False
  | n + 1 => wp_Lamps_survey_34_s K64 post (wp_Lamps_survey_34 K64 post n)
set_option maxHeartbeats 4000000 in
set_option maxRecDepth 100000 in
theorem lb_Lamps_survey_34 {κ : Cx} {g : Gx} {M : ST} (hκ : CF κ g RX2 cX2_survey wq_X2_survey 4 rm_Lamps_survey) {post : ST → Prop} (hR : RtxV κ g 4 cX2_survey M post) {K64 : ST → Int32 → Prop} (hK64 : ∀ (X : ST) (l1 : Int32), K64 X l1 → Jw κ g 4 X M [(0, .ref (g.2.1 3)), (1, .int l1)] 64 []) : ∀ (n : Nat) (X : ST) (l1 : Int32) (l2 : Nat) (l3 : Int32), l2 < 40 → wp_Lamps_survey_34 K64 post n X l1 l2 l3 → Jw κ g 4 X M [(0, .ref (g.2.1 3)), (1, .int l1), (2, .ref (g.2.1 (l2 + 100))), (3, .int l3)] 34 [] := by
  intro n
  induction n with
  | zero =>
    intro X l1 l2 l3 hl2 h
    exact h.elim
  | succ n ih =>
    intro X l1 l2 l3 hl2 h
    have h : wp_Lamps_survey_34_s K64 post (wp_Lamps_survey_34 K64 post n) X l1 l2 l3 := h
    unfold wp_Lamps_survey_34_s at h
    refine j_iload_n (pc' := 35) hκ 3 rfl rfl dX2_survey_34 rfl ?_
    refine j_aload_n (pc' := 36) hκ 0 rfl rfl dX2_survey_35 rfl ?_
    refine jg_3_9 (pc' := 39) hκ (mi inlX2) (fl_in hκ (mc wm_4_17)) dX2_survey_36 rfl ?_
    refine j_icmp_ge (tgt := 64) (pc' := 42) hκ dX2_survey_39 (by decide) rfl (fun c => ?_) (fun c => ?_)
    · replace h := h.1 c
      refine j_sub [0, 1] rfl ?_
      exact hK64 _ _  h
    · replace h := h.2 c
      refine j_aload_n (pc' := 43) hκ 0 rfl rfl dX2_survey_42 rfl ?_
      refine jg_3_7 (pc' := 46) hκ (mi inlX2) (fl_in hκ (mc wm_4_15)) dX2_survey_43 rfl ?_
      refine j_iload_n (pc' := 47) hκ 1 rfl rfl dX2_survey_46 rfl ?_
      refine j_aald (pc' := 48) (q := 26) (t := 3) hκ (wg_26 g _ _) rfl h.1 dX2_survey_47 rfl ?_
      have hr3 : l1.toNatClampNeg < 12 := Nat.not_le.mp fun q => h.1 (Or.inr q)
      replace h := h.2
      refine j_iload_n (pc' := 49) hκ 3 rfl rfl dX2_survey_48 rfl ?_
      refine j_aload_n (pc' := 50) hκ 2 rfl rfl dX2_survey_49 rfl ?_
      refine j_aload_n (pc' := 51) hκ 0 rfl rfl dX2_survey_50 rfl ?_
      refine jg_3_1 (pc' := 54) hκ (mi inlX2) (fl_in hκ (mc wm_4_8)) dX2_survey_51 rfl ?_
      refine j_iload_n (pc' := 55) hκ 3 rfl rfl dX2_survey_54 rfl ?_
      refine jx_iald (pc' := 56) hκ (ah_20 g) h.1 dX2_survey_55 rfl ?_
      replace h := h.2
      refine jx_iald (pc' := 57) hκ (ah_ways g hl2) h.1 dX2_survey_56 rfl ?_
      replace h := h.2
      refine jx_iast (pc' := 58) hκ (ah_gaps g hr3) h.1 dX2_survey_57 rfl ?_
      replace h := h.2
      refine j_nmX (fun X4 eX4 => ?_)
      replace h := h X4 eX4
      refine j_iinc (pc' := 61) (v := l3 + 1) (lv' := [(3, .int (l3 + 1)), (0, .ref (g.2.1 3)), (1, .int l1), (2, .ref (g.2.1 (l2 + 100)))]) hκ 3 rfl rfl (Nat.le_of_ble_eq_true rfl) rfl dX2_survey_58 rfl ?_
      refine j_goto (pc' := 34) hκ (by decide) dX2_survey_61 ?_
      refine j_sub [1, 2, 3, 0] rfl ?_
      exact ih _ _ _ _ hl2 h
def wp_Lamps_survey_10_s (K70 : ST → Prop) (post : ST → Prop) (rec : ST → Int32 → Prop) (X : ST) (l1 : Int32) : Prop :=
  ((x_Lamps_count X) ≤ l1 → (K70 X)) ∧ (¬ (x_Lamps_count X) ≤ l1 → (vp_in l1 12 ∧ (wp_Town_waysFrom X (x_Lamps_crossings X l1.toNatClampNeg) (fun r2 X1 => ∃ n, wp_Lamps_survey_34 (fun X5 v6 => rec X5 (v6 + 1)) post n X1 l1 r2 0))))
def wp_Lamps_survey_10 (K70 : ST → Prop) (post : ST → Prop) : Nat → ST → Int32 → Prop
  | 0 => fun _ _ => False
  | n + 1 => wp_Lamps_survey_10_s K70 post (wp_Lamps_survey_10 K70 post n)
set_option maxHeartbeats 4000000 in
set_option maxRecDepth 100000 in
theorem lb_Lamps_survey_10 {κ : Cx} {g : Gx} {M : ST} (hκ : CF κ g RX2 cX2_survey wq_X2_survey 4 rm_Lamps_survey) {post : ST → Prop} (hR : RtxV κ g 4 cX2_survey M post) {K70 : ST → Prop} (hK70 : ∀ (X : ST), K70 X → Jw κ g 4 X M [(0, .ref (g.2.1 3))] 70 []) : ∀ (n : Nat) (X : ST) (l1 : Int32), wp_Lamps_survey_10 K70 post n X l1 → Jw κ g 4 X M [(0, .ref (g.2.1 3)), (1, .int l1)] 10 [] := by
  intro n
  induction n with
  | zero =>
    intro X l1  h
    exact h.elim
  | succ n ih =>
    intro X l1  h
    have h : wp_Lamps_survey_10_s K70 post (wp_Lamps_survey_10 K70 post n) X l1 := h
    unfold wp_Lamps_survey_10_s at h
    refine j_iload_n (pc' := 11) hκ 1 rfl rfl dX2_survey_10 rfl ?_
    refine j_aload_n (pc' := 12) hκ 0 rfl rfl dX2_survey_11 rfl ?_
    refine jg_3_9 (pc' := 15) hκ (mi inlX2) (fl_in hκ (mc wm_4_17)) dX2_survey_12 rfl ?_
    refine j_icmp_ge (tgt := 70) (pc' := 18) hκ dX2_survey_15 (by decide) rfl (fun c => ?_) (fun c => ?_)
    · replace h := h.1 c
      refine j_sub [0] rfl ?_
      exact hK70 _  h
    · replace h := h.2 c
      refine j_aload_n (pc' := 19) hκ 0 rfl rfl dX2_survey_18 rfl ?_
      refine jg_3_0 (pc' := 22) hκ (mi inlX2) (fl_in hκ (mc wm_4_19)) dX2_survey_19 rfl ?_
      refine j_aload_n (pc' := 23) hκ 0 rfl rfl dX2_survey_22 rfl ?_
      refine jg_3_1 (pc' := 26) hκ (mi inlX2) (fl_in hκ (mc wm_4_8)) dX2_survey_23 rfl ?_
      refine j_iload_n (pc' := 27) hκ 1 rfl rfl dX2_survey_26 rfl ?_
      refine jx_iald (pc' := 28) hκ (ah_20 g) h.1 dX2_survey_27 rfl ?_
      replace h := h.2
      refine jx_callVr (pc' := 31) hκ (c_Town_waysFrom (dg hκ) h) rfl rfl rfl (gV wm_18_21 wm_14_23 wm_15_0 wm_1_19 wm_15_1) hqV_X7_waysFrom ⟨Nat.le_of_ble_eq_true rfl, Nat.le_of_ble_eq_true rfl⟩ (wg_2 g _ _) rfl rfl rfl (Nat.le_of_ble_eq_true rfl) dX2_survey_28 rfl (fun r2 X1 hr2 h => ?_)
      refine j_astore_n (pc' := 32) (lv' := [(2, .ref (g.2.1 (r2 + 100))), (0, .ref (g.2.1 3)), (1, .int l1)]) hκ (Nat.le_of_ble_eq_true rfl) rfl rfl dX2_survey_31 rfl ?_
      refine j_iconst (pc' := 33) (v := 0) hκ (by decide) dX2_survey_32 rfl ?_
      refine j_istore_n (pc' := 34) (lv' := [(3, .int 0), (2, .ref (g.2.1 (r2 + 100))), (0, .ref (g.2.1 3)), (1, .int l1)]) hκ (Nat.le_of_ble_eq_true rfl) rfl rfl dX2_survey_33 rfl ?_
      obtain ⟨n, h⟩ := h
      refine j_sub [2, 3, 1, 0] rfl ?_
      refine lb_Lamps_survey_34 hκ hR ?_ n _ _ _ _ hr2 h
      intro X5 v6  h
      refine j_iinc (pc' := 67) (v := v6 + 1) (lv' := [(1, .int (v6 + 1)), (0, .ref (g.2.1 3))]) hκ 1 rfl rfl (Nat.le_of_ble_eq_true rfl) rfl dX2_survey_64 rfl ?_
      refine j_goto (pc' := 10) hκ (by decide) dX2_survey_67 ?_
      refine j_sub [1, 0] rfl ?_
      exact ih _ _  h
def wp_Lamps_survey_80_s (K116 : ST → Prop) (post : ST → Prop) (rec : ST → Int32 → Prop) (X : ST) (l1 : Int32) : Prop :=
  ((x_Lamps_count X) ≤ l1 → (K116 X)) ∧ (¬ (x_Lamps_count X) ≤ l1 → (wp_Lamps_twinOf X l1 (fun r11 X10 => vp_in l1 12 ∧ (∀ X12 : ST, X12 = xs_Lamps_twins X10 (upd (x_Lamps_twins X10) l1.toNatClampNeg r11) → vp_in l1 12 ∧ (wp_Lamps_tieTwins X12 l1 (x_Lamps_twins X12 l1.toNatClampNeg) (fun X13 => rec X13 (l1 + 1)))))))
def wp_Lamps_survey_80 (K116 : ST → Prop) (post : ST → Prop) : Nat → ST → Int32 → Prop
  | 0 => fun _ _ => False
  | n + 1 => wp_Lamps_survey_80_s K116 post (wp_Lamps_survey_80 K116 post n)
set_option maxHeartbeats 4000000 in
set_option maxRecDepth 100000 in
theorem lb_Lamps_survey_80 {κ : Cx} {g : Gx} {M : ST} (hκ : CF κ g RX2 cX2_survey wq_X2_survey 4 rm_Lamps_survey) {post : ST → Prop} (hR : RtxV κ g 4 cX2_survey M post) {K116 : ST → Prop} (hK116 : ∀ (X : ST), K116 X → Jw κ g 4 X M [(0, .ref (g.2.1 3))] 116 []) : ∀ (n : Nat) (X : ST) (l1 : Int32), wp_Lamps_survey_80 K116 post n X l1 → Jw κ g 4 X M [(0, .ref (g.2.1 3)), (1, .int l1)] 80 [] := by
  intro n
  induction n with
  | zero =>
    intro X l1  h
    exact h.elim
  | succ n ih =>
    intro X l1  h
    have h : wp_Lamps_survey_80_s K116 post (wp_Lamps_survey_80 K116 post n) X l1 := h
    unfold wp_Lamps_survey_80_s at h
    refine j_iload_n (pc' := 81) hκ 1 rfl rfl dX2_survey_80 rfl ?_
    refine j_aload_n (pc' := 82) hκ 0 rfl rfl dX2_survey_81 rfl ?_
    refine jg_3_9 (pc' := 85) hκ (mi inlX2) (fl_in hκ (mc wm_4_17)) dX2_survey_82 rfl ?_
    refine j_icmp_ge (tgt := 116) (pc' := 88) hκ dX2_survey_85 (by decide) rfl (fun c => ?_) (fun c => ?_)
    · replace h := h.1 c
      refine j_sub [0] rfl ?_
      exact hK116 _  h
    · replace h := h.2 c
      refine j_aload_n (pc' := 89) hκ 0 rfl rfl dX2_survey_88 rfl ?_
      refine jg_3_5 (pc' := 92) hκ (mi inlX2) (fl_in hκ (mc wm_4_12)) dX2_survey_89 rfl ?_
      refine j_iload_n (pc' := 93) hκ 1 rfl rfl dX2_survey_92 rfl ?_
      refine j_aload_n (pc' := 94) hκ 0 rfl rfl dX2_survey_93 rfl ?_
      refine j_iload_n (pc' := 95) hκ 1 rfl rfl dX2_survey_94 rfl ?_
      refine jx_callVi (pc' := 98) hκ (c_Lamps_twinOf (dg hκ) h) rfl rfl rfl (gV wm_18_23 wm_19_0 wm_19_1 wm_1_23 wm_19_2) hqV_X2_twinOf ⟨Nat.le_of_ble_eq_true rfl, Nat.le_of_ble_eq_true rfl⟩ (wg_3 g _ _) rfl rfl rfl (Nat.le_of_ble_eq_true rfl) dX2_survey_95 rfl (fun r11 X10 h => ?_)
      refine jx_iast (pc' := 99) hκ (ah_24 g) h.1 dX2_survey_98 rfl ?_
      replace h := h.2
      refine j_nmX (fun X12 eX12 => ?_)
      replace h := h X12 eX12
      refine j_aload_n (pc' := 100) hκ 0 rfl rfl dX2_survey_99 rfl ?_
      refine j_iload_n (pc' := 101) hκ 1 rfl rfl dX2_survey_100 rfl ?_
      refine j_aload_n (pc' := 102) hκ 0 rfl rfl dX2_survey_101 rfl ?_
      refine jg_3_5 (pc' := 105) hκ (mi inlX2) (fl_in hκ (mc wm_4_12)) dX2_survey_102 rfl ?_
      refine j_iload_n (pc' := 106) hκ 1 rfl rfl dX2_survey_105 rfl ?_
      refine jx_iald (pc' := 107) hκ (ah_24 g) h.1 dX2_survey_106 rfl ?_
      replace h := h.2
      refine jx_callVv (pc' := 110) hκ (c_Lamps_tieTwins (dg hκ) h) rfl rfl rfl (gV wm_19_8 wm_19_9 wm_19_10 wm_1_23 wm_19_11) hqV_X2_tieTwins ⟨Nat.le_of_ble_eq_true rfl, Nat.le_of_ble_eq_true rfl⟩ (wg_3 g _ _) rfl rfl rfl (Nat.le_of_ble_eq_true rfl) dX2_survey_107 rfl (fun X13 h => ?_)
      refine j_iinc (pc' := 113) (v := l1 + 1) (lv' := [(1, .int (l1 + 1)), (0, .ref (g.2.1 3))]) hκ 1 rfl rfl (Nat.le_of_ble_eq_true rfl) rfl dX2_survey_110 rfl ?_
      refine j_goto (pc' := 80) hκ (by decide) dX2_survey_113 ?_
      refine j_sub [1, 0] rfl ?_
      exact ih _ _  h
def wp_Lamps_survey (X : ST) (post : ST → Prop) : Prop :=
  ((x_Lamps_surveyed X) = 0 → (∃ n, wp_Lamps_survey_10 (fun X7 => wp_arr_fillI X7 25 12 0 (fun X8 => ∃ n, wp_Lamps_survey_80 (fun X15 => ∀ X16 : ST, X16 = xs_Lamps_surveyed X15 1 → post X16) post n X8 0)) post n X 0)) ∧ (¬ (x_Lamps_surveyed X) = 0 → (post X))
set_option maxHeartbeats 4000000 in
set_option maxRecDepth 100000 in
theorem lb_Lamps_survey {κ : Cx} {g : Gx} {M : ST} (hκ : CF κ g RX2 cX2_survey wq_X2_survey 4 rm_Lamps_survey) {post : ST → Prop} (hR : RtxV κ g 4 cX2_survey M post) {X : ST} (h : wp_Lamps_survey X post) : Jw κ g 4 X M [(0, .ref (g.2.1 3))] 0 [] := by
  unfold wp_Lamps_survey at h
  refine j_aload_n (pc' := 1) hκ 0 rfl rfl dX2_survey_0 rfl ?_
  refine jg_3_10 (pc' := 4) hκ (mi inlX2) (fl_in hκ (mc wm_4_18)) dX2_survey_1 rfl ?_
  refine j_if_eq (tgt := 8) (pc' := 7) hκ dX2_survey_4 (by decide) rfl (fun c => ?_) (fun c => ?_)
  · replace h := h.1 c
    refine j_iconst (pc' := 9) (v := 0) hκ (by decide) dX2_survey_8 rfl ?_
    refine j_istore_n (pc' := 10) (lv' := [(1, .int 0), (0, .ref (g.2.1 3))]) hκ (Nat.le_of_ble_eq_true rfl) rfl rfl dX2_survey_9 rfl ?_
    obtain ⟨n, h⟩ := h
    refine j_sub [1, 0] rfl ?_
    refine lb_Lamps_survey_10 hκ hR ?_ n _ _  h
    intro X7  h
    refine j_aload_n (pc' := 71) hκ 0 rfl rfl dX2_survey_70 rfl ?_
    refine jg_3_6 (pc' := 74) hκ (mi inlX2) (fl_in hκ (mc wm_4_13)) dX2_survey_71 rfl ?_
    refine j_iconst (pc' := 75) (v := 0) hκ (by decide) dX2_survey_74 rfl ?_
    refine jx_callSv (pc' := 78) hκ (c_arr_fillI (dg hκ) (ah_25 g) h) rfl rfl rfl (gS wm_18_22 wm_3_13 wm_3_14 wm_3_15) hqS_J7_fill_53178 ⟨Nat.le_of_ble_eq_true rfl, Nat.le_of_ble_eq_true rfl⟩ rfl rfl (Nat.le_of_ble_eq_true rfl) dX2_survey_75 rfl (fun X8 h => ?_)
    refine j_iconst (pc' := 79) (v := 0) hκ (by decide) dX2_survey_78 rfl ?_
    refine j_istore_n (pc' := 80) (lv' := [(1, .int 0), (0, .ref (g.2.1 3))]) hκ (Nat.le_of_ble_eq_true rfl) rfl rfl dX2_survey_79 rfl ?_
    obtain ⟨n, h⟩ := h
    refine j_sub [1, 0] rfl ?_
    refine lb_Lamps_survey_80 hκ hR ?_ n _ _  h
    intro X15  h
    refine j_aload_n (pc' := 117) hκ 0 rfl rfl dX2_survey_116 rfl ?_
    refine j_iconst (pc' := 118) (v := 1) hκ (by decide) dX2_survey_117 rfl ?_
    refine jp_3_10 (pc' := 121) hκ (mi inlX2) (fl_in hκ (mc wm_4_18)) (Or.inr rfl) dX2_survey_118 rfl ?_
    refine j_nmX (fun X16 eX16 => ?_)
    replace h := h X16 eX16
    exact hR _ _ _ dX2_survey_121 h
  · replace h := h.2 c
    exact hR _ _ _ dX2_survey_7 h
theorem c_Lamps_survey {g : Gx} (hg : Dg g) {X M : ST} {post : ST → Prop} (h : wp_Lamps_survey X post) (l : Launch) : Met l yX2_survey wq_X2_survey rm_Lamps_survey (va_Pc [.ref (g.2.1 3)] (PU g X M)) (va_Qv post (fun Y t => va_P g.1 vwCl (ww g Y M) t.heap) (wA g)) 0 0 (wA g) :=
  met_xv hg (by decide) rfl [.ref (g.2.1 3)] rfl (Nat.le_of_ble_eq_true rfl) (fun κ hκ hR => lb_Lamps_survey hκ hR h) l
