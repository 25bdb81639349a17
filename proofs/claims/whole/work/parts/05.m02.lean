theorem wm_24_23 : Cond.methodLink RX10 169 yX10_isWritten ∈ wAll := inr_24 (List.mem_of_getElem? (i := 23) rfl)
theorem wm_25_0 : Cond.instanceMethod yX10_isWritten ∈ wAll := inr_25 (List.mem_of_getElem? (i := 0) rfl)
theorem wm_25_1 : Cond.selects RX10 yX10_isWritten yX10_isWritten ∈ wAll := inr_25 (List.mem_of_getElem? (i := 1) rfl)
theorem wm_25_2 : Cond.code yX10_isWritten cX10_isWritten 4 (some .boolean) ∈ wAll := inr_25 (List.mem_of_getElem? (i := 2) rfl)
theorem hqV_X10_isWritten : yX10_isWritten.cls = RX10 ∧ yX10_isWritten.cls ≠ "java/lang/invoke/MethodHandle" ∧ yX10_isWritten.cls ≠ "java/lang/invoke/VarHandle" ∧ (parseMethodDescriptor yX10_isWritten.desc).map (fun d => d.parameters.length) = some 1 := by decide +kernel
abbrev rm_m_keepsTwins : Room := { frames := 2, cells := 0, slots := 0, locals := 48 }
def wp_m_keepsTwins_5_s (k1 n1 : Nat) (K64 : ST → Int32 → Prop) (post : Int32 → ST → Prop) (rec : ST → Int32 → Int32 → Int32 → Prop) (M : ST) (l2 : Int32) (l3 : Int32) (l4 : Int32) : Prop :=
  (l2 ≤ l4 → (K64 M l3)) ∧ (¬ l2 ≤ l4 → (vp_in l4 n1 ∧ (wp_m_twinOf M (M.2.2.1 k1 l4.toNatClampNeg) (fun r2 M1 => (r2 < 0 → (∀ v3 : Int32, v3 = l3 &&& 1 → rec M1 l2 v3 (l4 + 1))) ∧ (¬ r2 < 0 → (vp_in r2 12 ∧ ((¬ (m_isOut M1 r2.toNatClampNeg) = 0 → (∀ v4 : Int32, v4 = l3 &&& 1 → rec M1 l2 v4 (l4 + 1))) ∧ ((m_isOut M1 r2.toNatClampNeg) = 0 → (vp_in l4 n1 ∧ (wp_m_areBeside M1 k1 n1 l2 (M1.2.2.1 k1 l4.toNatClampNeg) r2 (fun r6 M5 => (r6 = 0 → (∀ v7 : Int32, v7 = l3 &&& 0 → rec M5 l2 v7 (l4 + 1))) ∧ (¬ r6 = 0 → (∀ v8 : Int32, v8 = l3 &&& 1 → rec M5 l2 v8 (l4 + 1))))))))))))))
def wp_m_keepsTwins_5 (k1 n1 : Nat) (K64 : ST → Int32 → Prop) (post : Int32 → ST → Prop) : Nat → ST → Int32 → Int32 → Int32 → Prop
  | 0 => fun _ _ _ _ => False
  | n + 1 => wp_m_keepsTwins_5_s k1 n1 K64 post (wp_m_keepsTwins_5 k1 n1 K64 post n)
set_option maxHeartbeats 4000000 in
set_option maxRecDepth 100000 in
theorem lb_m_keepsTwins_5 {κ : Cx} {g : Gx} {X : ST} (hκ : CF κ g RX10 cX10_keepsTwins wq_X10_keepsTwins 6 rm_m_keepsTwins) {post : Int32 → ST → Prop} (hR : RtmZ κ g 6 cX10_keepsTwins X post) {a1 q1 k1 n1 : Nat} (hh1 : mhI g q1 k1 n1 a1) {K64 : ST → Int32 → Prop} (hK64 : ∀ (M : ST) (l3 : Int32), K64 M l3 → Jw κ g 6 X M [(3, .int l3)] 64 []) : ∀ (n : Nat) (M : ST) (l2 : Int32) (l3 : Int32) (l4 : Int32), wp_m_keepsTwins_5 k1 n1 K64 post n M l2 l3 l4 → Jw κ g 6 X M [(0, .ref (g.2.1 11)), (1, .ref a1), (2, .int l2), (3, .int l3), (4, .int l4)] 5 [] := by
  intro n
  induction n with
  | zero =>
    intro M l2 l3 l4  h
    exact h.elim
  | succ n ih =>
    intro M l2 l3 l4  h
    have h : wp_m_keepsTwins_5_s k1 n1 K64 post (wp_m_keepsTwins_5 k1 n1 K64 post n) M l2 l3 l4 := h
    unfold wp_m_keepsTwins_5_s at h
    refine j_iload (pc' := 7) hκ 4 rfl dX10_keepsTwins_5 rfl ?_
    refine j_iload_n (pc' := 8) hκ 2 rfl rfl dX10_keepsTwins_7 rfl ?_
    refine j_icmp_ge (tgt := 64) (pc' := 11) hκ dX10_keepsTwins_8 (by decide) rfl (fun c => ?_) (fun c => ?_)
    · replace h := h.1 c
      refine j_sub [3] rfl ?_
      exact hK64 _ _  h
    · replace h := h.2 c
      refine j_aload_n (pc' := 12) hκ 0 rfl rfl dX10_keepsTwins_11 rfl ?_
      refine j_aload_n (pc' := 13) hκ 1 rfl rfl dX10_keepsTwins_12 rfl ?_
      refine j_iload (pc' := 15) hκ 4 rfl dX10_keepsTwins_13 rfl ?_
      refine jm_iald (pc' := 16) hκ hh1 h.1 dX10_keepsTwins_15 rfl ?_
      replace h := h.2
      refine jm_callVi (pc' := 19) hκ (c_m_twinOf (dg hκ) h) rfl rfl rfl (gV wm_19_17 wm_19_18 wm_19_19 wm_1_5 wm_19_20) hqV_X10_twinOf ⟨Nat.le_of_ble_eq_true rfl, Nat.le_of_ble_eq_true rfl⟩ (wg_11 g _ _) rfl rfl rfl (Nat.le_of_ble_eq_true rfl) dX10_keepsTwins_16 rfl (fun r2 M1 h => ?_)
      refine j_istore (pc' := 21) (lv' := [(5, .int r2), (0, .ref (g.2.1 11)), (1, .ref a1), (2, .int l2), (3, .int l3), (4, .int l4)]) hκ (Nat.le_of_ble_eq_true rfl) rfl dX10_keepsTwins_19 rfl ?_
      refine j_iload_n (pc' := 22) hκ 4 rfl rfl dX10_keepsTwins_21 rfl ?_
      refine j_iload (pc' := 24) hκ 0 rfl dX10_keepsTwins_22 rfl ?_
      refine j_if_lt (tgt := 51) (pc' := 27) hκ dX10_keepsTwins_24 (by decide) rfl (fun c => ?_) (fun c => ?_)
      · replace h := h.1 c
        refine j_iconst (pc' := 52) (v := 1) hκ (by decide) dX10_keepsTwins_51 rfl ?_
        refine j_goto (pc' := 56) hκ (by decide) dX10_keepsTwins_52 ?_
        refine j_iand (pc' := 57) hκ dX10_keepsTwins_56 rfl ?_
        refine j_topi (fun v3 ev3 => ?_)
        replace h := h v3 ev3
        refine j_istore_n (pc' := 58) (lv' := [(3, .int v3), (5, .int r2), (0, .ref (g.2.1 11)), (1, .ref a1), (2, .int l2), (4, .int l4)]) hκ (Nat.le_of_ble_eq_true rfl) rfl rfl dX10_keepsTwins_57 rfl ?_
        refine j_iinc (pc' := 61) (v := l4 + 1) (lv' := [(4, .int (l4 + 1)), (3, .int v3), (5, .int r2), (0, .ref (g.2.1 11)), (1, .ref a1), (2, .int l2)]) hκ 5 rfl rfl (Nat.le_of_ble_eq_true rfl) rfl dX10_keepsTwins_58 rfl ?_
        refine j_goto (pc' := 5) hκ (by decide) dX10_keepsTwins_61 ?_
        refine j_sub [3, 4, 5, 1, 0] rfl ?_
        exact ih _ _ _ _  h
      · replace h := h.2 c
        refine j_aload_n (pc' := 28) hκ 1 rfl rfl dX10_keepsTwins_27 rfl ?_
        refine jg_11_13 (pc' := 31) hκ (mi inlX10) (fl_in hκ (mc wm_7_21)) dX10_keepsTwins_28 rfl ?_
        refine j_iload (pc' := 33) hκ 0 rfl dX10_keepsTwins_31 rfl ?_
        refine jm_zald (pc' := 34) hκ (ah_58 g) h.1 dX10_keepsTwins_33 rfl ?_
        replace h := h.2
        refine j_if_ne (tgt := 51) (pc' := 37) hκ dX10_keepsTwins_34 (by decide) rfl (fun c => ?_) (fun c => ?_)
        · replace h := h.1 c
          refine j_iconst (pc' := 52) (v := 1) hκ (by decide) dX10_keepsTwins_51 rfl ?_
          refine j_goto (pc' := 56) hκ (by decide) dX10_keepsTwins_52 ?_
          refine j_iand (pc' := 57) hκ dX10_keepsTwins_56 rfl ?_
          refine j_topi (fun v4 ev4 => ?_)
          replace h := h v4 ev4
          refine j_istore_n (pc' := 58) (lv' := [(3, .int v4), (5, .int r2), (0, .ref (g.2.1 11)), (1, .ref a1), (2, .int l2), (4, .int l4)]) hκ (Nat.le_of_ble_eq_true rfl) rfl rfl dX10_keepsTwins_57 rfl ?_
          refine j_iinc (pc' := 61) (v := l4 + 1) (lv' := [(4, .int (l4 + 1)), (3, .int v4), (5, .int r2), (0, .ref (g.2.1 11)), (1, .ref a1), (2, .int l2)]) hκ 5 rfl rfl (Nat.le_of_ble_eq_true rfl) rfl dX10_keepsTwins_58 rfl ?_
          refine j_goto (pc' := 5) hκ (by decide) dX10_keepsTwins_61 ?_
          refine j_sub [3, 4, 5, 1, 0] rfl ?_
          exact ih _ _ _ _  h
        · replace h := h.2 c
          refine j_aload_n (pc' := 38) hκ 2 rfl rfl dX10_keepsTwins_37 rfl ?_
          refine j_iload_n (pc' := 39) hκ 3 rfl rfl dX10_keepsTwins_38 rfl ?_
          refine j_aload_n (pc' := 40) hκ 2 rfl rfl dX10_keepsTwins_39 rfl ?_
          refine j_iload (pc' := 42) hκ 5 rfl dX10_keepsTwins_40 rfl ?_
          refine jm_iald (pc' := 43) hκ hh1 h.1 dX10_keepsTwins_42 rfl ?_
          replace h := h.2
          refine j_iload (pc' := 45) hκ 0 rfl dX10_keepsTwins_43 rfl ?_
          refine jm_callSi (pc' := 48) hκ (c_m_areBeside (dg hκ) hh1 h) rfl rfl rfl (gS wm_24_17 wm_24_18 wm_1_5 wm_24_19) hqS_X10_areBeside ⟨Nat.le_of_ble_eq_true rfl, Nat.le_of_ble_eq_true rfl⟩ rfl rfl (Nat.le_of_ble_eq_true rfl) dX10_keepsTwins_45 rfl (fun r6 M5 h => ?_)
          refine j_if_eq (tgt := 55) (pc' := 51) hκ dX10_keepsTwins_48 (by decide) rfl (fun c => ?_) (fun c => ?_)
          · replace h := h.1 c
            refine j_iconst (pc' := 56) (v := 0) hκ (by decide) dX10_keepsTwins_55 rfl ?_
            refine j_iand (pc' := 57) hκ dX10_keepsTwins_56 rfl ?_
            refine j_topi (fun v7 ev7 => ?_)
            replace h := h v7 ev7
            refine j_istore_n (pc' := 58) (lv' := [(3, .int v7), (5, .int r2), (0, .ref (g.2.1 11)), (1, .ref a1), (2, .int l2), (4, .int l4)]) hκ (Nat.le_of_ble_eq_true rfl) rfl rfl dX10_keepsTwins_57 rfl ?_
            refine j_iinc (pc' := 61) (v := l4 + 1) (lv' := [(4, .int (l4 + 1)), (3, .int v7), (5, .int r2), (0, .ref (g.2.1 11)), (1, .ref a1), (2, .int l2)]) hκ 5 rfl rfl (Nat.le_of_ble_eq_true rfl) rfl dX10_keepsTwins_58 rfl ?_
            refine j_goto (pc' := 5) hκ (by decide) dX10_keepsTwins_61 ?_
            refine j_sub [3, 4, 5, 1, 0] rfl ?_
            exact ih _ _ _ _  h
          · replace h := h.2 c
            refine j_iconst (pc' := 52) (v := 1) hκ (by decide) dX10_keepsTwins_51 rfl ?_
            refine j_goto (pc' := 56) hκ (by decide) dX10_keepsTwins_52 ?_
            refine j_iand (pc' := 57) hκ dX10_keepsTwins_56 rfl ?_
            refine j_topi (fun v8 ev8 => ?_)
            replace h := h v8 ev8
            refine j_istore_n (pc' := 58) (lv' := [(3, .int v8), (5, .int r2), (0, .ref (g.2.1 11)), (1, .ref a1), (2, .int l2), (4, .int l4)]) hκ (Nat.le_of_ble_eq_true rfl) rfl rfl dX10_keepsTwins_57 rfl ?_
            refine j_iinc (pc' := 61) (v := l4 + 1) (lv' := [(4, .int (l4 + 1)), (3, .int v8), (5, .int r2), (0, .ref (g.2.1 11)), (1, .ref a1), (2, .int l2)]) hκ 5 rfl rfl (Nat.le_of_ble_eq_true rfl) rfl dX10_keepsTwins_58 rfl ?_
            refine j_goto (pc' := 5) hκ (by decide) dX10_keepsTwins_61 ?_
            refine j_sub [3, 4, 5, 1, 0] rfl ?_
            exact ih _ _ _ _  h
def wp_m_keepsTwins (M : ST) (k1 n1 : Nat) (p2 : Int32) (post : Int32 → ST → Prop) : Prop :=
  ∃ n, wp_m_keepsTwins_5 k1 n1 (fun M9 v10 => bz v10 ∧ post v10 M9) post n M p2 1 0
set_option maxHeartbeats 4000000 in
set_option maxRecDepth 100000 in
theorem lb_m_keepsTwins {κ : Cx} {g : Gx} {X : ST} (hκ : CF κ g RX10 cX10_keepsTwins wq_X10_keepsTwins 6 rm_m_keepsTwins) {post : Int32 → ST → Prop} (hR : RtmZ κ g 6 cX10_keepsTwins X post) {M : ST} {k1 n1 : Nat} {p2 : Int32} {a1 q1 : Nat} (hh1 : mhI g q1 k1 n1 a1) (h : wp_m_keepsTwins M k1 n1 p2 post) : Jw κ g 6 X M [(0, .ref (g.2.1 11)), (1, .ref a1), (2, .int p2)] 0 [] := by
  unfold wp_m_keepsTwins at h
  refine j_iconst (pc' := 1) (v := 1) hκ (by decide) dX10_keepsTwins_0 rfl ?_
  refine j_istore_n (pc' := 2) (lv' := [(3, .int 1), (0, .ref (g.2.1 11)), (1, .ref a1), (2, .int p2)]) hκ (Nat.le_of_ble_eq_true rfl) rfl rfl dX10_keepsTwins_1 rfl ?_
  refine j_iconst (pc' := 3) (v := 0) hκ (by decide) dX10_keepsTwins_2 rfl ?_
  refine j_istore (pc' := 5) (lv' := [(4, .int 0), (3, .int 1), (0, .ref (g.2.1 11)), (1, .ref a1), (2, .int p2)]) hκ (Nat.le_of_ble_eq_true rfl) rfl dX10_keepsTwins_3 rfl ?_
  obtain ⟨n, h⟩ := h
  refine j_sub [2, 3, 4, 1, 0] rfl ?_
  refine lb_m_keepsTwins_5 hκ hR hh1 ?_ n _ _ _ _  h
  intro M9 v10  h
  refine j_iload_n (pc' := 65) hκ 0 rfl rfl dX10_keepsTwins_64 rfl ?_
  exact hR _ _ _ _ dX10_keepsTwins_65 h.1 h.2
theorem c_m_keepsTwins {g : Gx} (hg : Dg g) {X M : ST} {k1 n1 : Nat} {p2 : Int32} {a1 q1 : Nat} (hh1 : mhI g q1 k1 n1 a1) {post : Int32 → ST → Prop} (h : wp_m_keepsTwins M k1 n1 p2 post) (l : Launch) : Met l yX10_keepsTwins wq_X10_keepsTwins rm_m_keepsTwins (va_Pc [.ref (g.2.1 11), .ref a1, .int p2] (PU g X M)) (va_Qi post (fun Y t => va_P g.1 vwCl (ww g X Y) t.heap) (wA g)) 0 0 (wA g) :=
  met_mz hg (by decide) rfl [.ref (g.2.1 11), .ref a1, .int p2] rfl (Nat.le_of_ble_eq_true rfl) (fun κ hκ hR => lb_m_keepsTwins hκ hR hh1 h) l
theorem wm_24_13 : Cond.methodLink RX10 165 yX10_keepsTwins ∈ wAll := inr_24 (List.mem_of_getElem? (i := 13) rfl)
theorem wm_24_14 : Cond.instanceMethod yX10_keepsTwins ∈ wAll := inr_24 (List.mem_of_getElem? (i := 14) rfl)
theorem wm_24_15 : Cond.selects RX10 yX10_keepsTwins yX10_keepsTwins ∈ wAll := inr_24 (List.mem_of_getElem? (i := 15) rfl)
theorem wm_24_16 : Cond.code yX10_keepsTwins cX10_keepsTwins 6 (some .boolean) ∈ wAll := inr_24 (List.mem_of_getElem? (i := 16) rfl)
theorem hqV_X10_keepsTwins : yX10_keepsTwins.cls = RX10 ∧ yX10_keepsTwins.cls ≠ "java/lang/invoke/MethodHandle" ∧ yX10_keepsTwins.cls ≠ "java/lang/invoke/VarHandle" ∧ (parseMethodDescriptor yX10_keepsTwins.desc).map (fun d => d.parameters.length) = some 2 := by decide +kernel
abbrev rm_m_lengthOf : Room := { frames := 1, cells := 0, slots := 0, locals := 22 }
def wp_m_lengthOf_5_s (k1 n1 : Nat) (K58 : ST → Int32 → Prop) (post : Int32 → ST → Prop) (rec : ST → Int32 → Int32 → Int32 → Prop) (M : ST) (l2 : Int32) (l3 : Int32) (l4 : Int32) : Prop :=
  (l2 ≤ l4 → (K58 M l3)) ∧ (¬ l2 ≤ l4 → (vp_in l4 n1 ∧ (¬ l2 = 0 ∧ (vp_in ((l4 + 1) - (l4 + 1) / l2 * l2) n1 ∧ (wp_m_between M (M.2.2.1 k1 l4.toNatClampNeg) (M.2.2.1 k1 ((l4 + 1) - (l4 + 1) / l2 * l2).toNatClampNeg) (fun r2 M1 => (r2 = 1000000000 → (rec M1 l2 1000000000 (l4 + 1))) ∧ (¬ r2 = 1000000000 → ((¬ l3 = 1000000000 → (∀ v3 : Int32, v3 = l3 + r2 → rec M1 l2 v3 (l4 + 1))) ∧ (l3 = 1000000000 → (rec M1 l2 1000000000 (l4 + 1)))))))))))
def wp_m_lengthOf_5 (k1 n1 : Nat) (K58 : ST → Int32 → Prop) (post : Int32 → ST → Prop) : Nat → ST → Int32 → Int32 → Int32 → Prop
  | 0 => fun _ _ _ _ => False
  | n + 1 => wp_m_lengthOf_5_s k1 n1 K58 post (wp_m_lengthOf_5 k1 n1 K58 post n)
set_option maxHeartbeats 4000000 in
set_option maxRecDepth 100000 in
theorem lb_m_lengthOf_5 {κ : Cx} {g : Gx} {X : ST} (hκ : CF κ g RX10 cX10_lengthOf wq_X10_lengthOf 6 rm_m_lengthOf) {post : Int32 → ST → Prop} (hR : RtmI κ g 6 cX10_lengthOf X post) {a1 q1 k1 n1 : Nat} (hh1 : mhI g q1 k1 n1 a1) {K58 : ST → Int32 → Prop} (hK58 : ∀ (M : ST) (l3 : Int32), K58 M l3 → Jw κ g 6 X M [(3, .int l3)] 58 []) : ∀ (n : Nat) (M : ST) (l2 : Int32) (l3 : Int32) (l4 : Int32), wp_m_lengthOf_5 k1 n1 K58 post n M l2 l3 l4 → Jw κ g 6 X M [(0, .ref (g.2.1 11)), (1, .ref a1), (2, .int l2), (3, .int l3), (4, .int l4)] 5 [] := by
  intro n
  induction n with
  | zero =>
    intro M l2 l3 l4  h
    exact h.elim
  | succ n ih =>
    intro M l2 l3 l4  h
    have h : wp_m_lengthOf_5_s k1 n1 K58 post (wp_m_lengthOf_5 k1 n1 K58 post n) M l2 l3 l4 := h
    unfold wp_m_lengthOf_5_s at h
    refine j_iload (pc' := 7) hκ 4 rfl dX10_lengthOf_5 rfl ?_
    refine j_iload_n (pc' := 8) hκ 2 rfl rfl dX10_lengthOf_7 rfl ?_
    refine j_icmp_ge (tgt := 58) (pc' := 11) hκ dX10_lengthOf_8 (by decide) rfl (fun c => ?_) (fun c => ?_)
    · replace h := h.1 c
      refine j_sub [3] rfl ?_
      exact hK58 _ _  h
    · replace h := h.2 c
      refine j_aload_n (pc' := 12) hκ 0 rfl rfl dX10_lengthOf_11 rfl ?_
      refine j_aload_n (pc' := 13) hκ 1 rfl rfl dX10_lengthOf_12 rfl ?_
      refine j_iload (pc' := 15) hκ 4 rfl dX10_lengthOf_13 rfl ?_
      refine jm_iald (pc' := 16) hκ hh1 h.1 dX10_lengthOf_15 rfl ?_
      replace h := h.2
      refine j_aload_n (pc' := 17) hκ 1 rfl rfl dX10_lengthOf_16 rfl ?_
      refine j_iload (pc' := 19) hκ 4 rfl dX10_lengthOf_17 rfl ?_
      refine j_iconst (pc' := 20) (v := 1) hκ (by decide) dX10_lengthOf_19 rfl ?_
      refine j_iadd (pc' := 21) hκ dX10_lengthOf_20 rfl ?_
      refine j_iload_n (pc' := 22) hκ 2 rfl rfl dX10_lengthOf_21 rfl ?_
      refine j_irem (pc' := 23) hκ h.1 dX10_lengthOf_22 rfl ?_
      replace h := h.2
      refine jm_iald (pc' := 24) hκ hh1 h.1 dX10_lengthOf_23 rfl ?_
      replace h := h.2
      refine jm_callVi (pc' := 27) hκ (c_m_between (dg hκ) h) rfl rfl rfl (gV wm_19_21 wm_19_22 wm_19_23 wm_1_5 wm_20_0) hqV_X10_between ⟨Nat.le_of_ble_eq_true rfl, Nat.le_of_ble_eq_true rfl⟩ (wg_11 g _ _) rfl rfl rfl (Nat.le_of_ble_eq_true rfl) dX10_lengthOf_24 rfl (fun r2 M1 h => ?_)
      refine j_istore (pc' := 29) (lv' := [(5, .int r2), (0, .ref (g.2.1 11)), (1, .ref a1), (2, .int l2), (3, .int l3), (4, .int l4)]) hκ (Nat.le_of_ble_eq_true rfl) rfl dX10_lengthOf_27 rfl ?_
      refine j_iload (pc' := 31) hκ 0 rfl dX10_lengthOf_29 rfl ?_
      refine j_ldc (pc' := 33) hκ (mc wm_8_19) dX10_lengthOf_31 rfl ?_
      refine j_icmp_eq (tgt := 42) (pc' := 36) hκ dX10_lengthOf_33 (by decide) rfl (fun c => ?_) (fun c => ?_)
      · replace h := h.1 c
        refine j_ldc (pc' := 44) hκ (mc wm_8_19) dX10_lengthOf_42 rfl ?_
        refine j_goto (pc' := 51) hκ (by decide) dX10_lengthOf_44 ?_
        refine j_istore_n (pc' := 52) (lv' := [(3, .int 1000000000), (5, .int r2), (0, .ref (g.2.1 11)), (1, .ref a1), (2, .int l2), (4, .int l4)]) hκ (Nat.le_of_ble_eq_true rfl) rfl rfl dX10_lengthOf_51 rfl ?_
        refine j_iinc (pc' := 55) (v := l4 + 1) (lv' := [(4, .int (l4 + 1)), (3, .int 1000000000), (5, .int r2), (0, .ref (g.2.1 11)), (1, .ref a1), (2, .int l2)]) hκ 5 rfl rfl (Nat.le_of_ble_eq_true rfl) rfl dX10_lengthOf_52 rfl ?_
        refine j_goto (pc' := 5) hκ (by decide) dX10_lengthOf_55 ?_
        refine j_sub [3, 4, 5, 1, 0] rfl ?_
        exact ih _ _ _ _  h
      · replace h := h.2 c
        refine j_iload_n (pc' := 37) hκ 4 rfl rfl dX10_lengthOf_36 rfl ?_
        refine j_ldc (pc' := 39) hκ (mc wm_8_19) dX10_lengthOf_37 rfl ?_
        refine j_icmp_ne (tgt := 47) (pc' := 42) hκ dX10_lengthOf_39 (by decide) rfl (fun c => ?_) (fun c => ?_)
        · replace h := h.1 c
          refine j_iload_n (pc' := 48) hκ 4 rfl rfl dX10_lengthOf_47 rfl ?_
          refine j_iload (pc' := 50) hκ 0 rfl dX10_lengthOf_48 rfl ?_
          refine j_iadd (pc' := 51) hκ dX10_lengthOf_50 rfl ?_
          refine j_topi (fun v3 ev3 => ?_)
          replace h := h v3 ev3
          refine j_istore_n (pc' := 52) (lv' := [(3, .int v3), (5, .int r2), (0, .ref (g.2.1 11)), (1, .ref a1), (2, .int l2), (4, .int l4)]) hκ (Nat.le_of_ble_eq_true rfl) rfl rfl dX10_lengthOf_51 rfl ?_
          refine j_iinc (pc' := 55) (v := l4 + 1) (lv' := [(4, .int (l4 + 1)), (3, .int v3), (5, .int r2), (0, .ref (g.2.1 11)), (1, .ref a1), (2, .int l2)]) hκ 5 rfl rfl (Nat.le_of_ble_eq_true rfl) rfl dX10_lengthOf_52 rfl ?_
          refine j_goto (pc' := 5) hκ (by decide) dX10_lengthOf_55 ?_
          refine j_sub [3, 4, 5, 1, 0] rfl ?_
          exact ih _ _ _ _  h
        · replace h := h.2 c
          refine j_ldc (pc' := 44) hκ (mc wm_8_19) dX10_lengthOf_42 rfl ?_
          refine j_goto (pc' := 51) hκ (by decide) dX10_lengthOf_44 ?_
          refine j_istore_n (pc' := 52) (lv' := [(3, .int 1000000000), (5, .int r2), (0, .ref (g.2.1 11)), (1, .ref a1), (2, .int l2), (4, .int l4)]) hκ (Nat.le_of_ble_eq_true rfl) rfl rfl dX10_lengthOf_51 rfl ?_
          refine j_iinc (pc' := 55) (v := l4 + 1) (lv' := [(4, .int (l4 + 1)), (3, .int 1000000000), (5, .int r2), (0, .ref (g.2.1 11)), (1, .ref a1), (2, .int l2)]) hκ 5 rfl rfl (Nat.le_of_ble_eq_true rfl) rfl dX10_lengthOf_52 rfl ?_
          refine j_goto (pc' := 5) hκ (by decide) dX10_lengthOf_55 ?_
          refine j_sub [3, 4, 5, 1, 0] rfl ?_
          exact ih _ _ _ _  h
def wp_m_lengthOf (M : ST) (k1 n1 : Nat) (p2 : Int32) (post : Int32 → ST → Prop) : Prop :=
  ∃ n, wp_m_lengthOf_5 k1 n1 (fun M4 v5 => post v5 M4) post n M p2 0 0
set_option maxHeartbeats 4000000 in
set_option maxRecDepth 100000 in
theorem lb_m_lengthOf {κ : Cx} {g : Gx} {X : ST} (hκ : CF κ g RX10 cX10_lengthOf wq_X10_lengthOf 6 rm_m_lengthOf) {post : Int32 → ST → Prop} (hR : RtmI κ g 6 cX10_lengthOf X post) {M : ST} {k1 n1 : Nat} {p2 : Int32} {a1 q1 : Nat} (hh1 : mhI g q1 k1 n1 a1) (h : wp_m_lengthOf M k1 n1 p2 post) : Jw κ g 6 X M [(0, .ref (g.2.1 11)), (1, .ref a1), (2, .int p2)] 0 [] := by
  unfold wp_m_lengthOf at h
  refine j_iconst (pc' := 1) (v := 0) hκ (by decide) dX10_lengthOf_0 rfl ?_
  refine j_istore_n (pc' := 2) (lv' := [(3, .int 0), (0, .ref (g.2.1 11)), (1, .ref a1), (2, .int p2)]) hκ (Nat.le_of_ble_eq_true rfl) rfl rfl dX10_lengthOf_1 rfl ?_
  refine j_iconst (pc' := 3) (v := 0) hκ (by decide) dX10_lengthOf_2 rfl ?_
  refine j_istore (pc' := 5) (lv' := [(4, .int 0), (3, .int 0), (0, .ref (g.2.1 11)), (1, .ref a1), (2, .int p2)]) hκ (Nat.le_of_ble_eq_true rfl) rfl dX10_lengthOf_3 rfl ?_
  obtain ⟨n, h⟩ := h
  refine j_sub [2, 3, 4, 1, 0] rfl ?_
  refine lb_m_lengthOf_5 hκ hR hh1 ?_ n _ _ _ _  h
  intro M4 v5  h
  refine j_iload_n (pc' := 59) hκ 0 rfl rfl dX10_lengthOf_58 rfl ?_
  exact hR _ _ _ _ dX10_lengthOf_59 h
theorem c_m_lengthOf {g : Gx} (hg : Dg g) {X M : ST} {k1 n1 : Nat} {p2 : Int32} {a1 q1 : Nat} (hh1 : mhI g q1 k1 n1 a1) {post : Int32 → ST → Prop} (h : wp_m_lengthOf M k1 n1 p2 post) (l : Launch) : Met l yX10_lengthOf wq_X10_lengthOf rm_m_lengthOf (va_Pc [.ref (g.2.1 11), .ref a1, .int p2] (PU g X M)) (va_Qi post (fun Y t => va_P g.1 vwCl (ww g X Y) t.heap) (wA g)) 0 0 (wA g) :=
  met_mi hg (by decide) rfl [.ref (g.2.1 11), .ref a1, .int p2] rfl (Nat.le_of_ble_eq_true rfl) (fun κ hκ hR => lb_m_lengthOf hκ hR hh1 h) l
theorem wm_24_9 : Cond.methodLink RX10 161 yX10_lengthOf ∈ wAll := inr_24 (List.mem_of_getElem? (i := 9) rfl)
theorem wm_24_10 : Cond.instanceMethod yX10_lengthOf ∈ wAll := inr_24 (List.mem_of_getElem? (i := 10) rfl)
theorem wm_24_11 : Cond.selects RX10 yX10_lengthOf yX10_lengthOf ∈ wAll := inr_24 (List.mem_of_getElem? (i := 11) rfl)
theorem wm_24_12 : Cond.code yX10_lengthOf cX10_lengthOf 6 (some .int) ∈ wAll := inr_24 (List.mem_of_getElem? (i := 12) rfl)
theorem hqV_X10_lengthOf : yX10_lengthOf.cls = RX10 ∧ yX10_lengthOf.cls ≠ "java/lang/invoke/MethodHandle" ∧ yX10_lengthOf.cls ≠ "java/lang/invoke/VarHandle" ∧ (parseMethodDescriptor yX10_lengthOf.desc).map (fun d => d.parameters.length) = some 2 := by decide +kernel
abbrev rm_m_search : Room := { frames := 3, cells := 0, slots := 0, locals := 73 }
def wp_m_search_6_s (K43 : ST → Int32 → Int32 → Int32 → Int32 → Prop) (post : Int32 → ST → Prop) (rec : ST → Int32 → Int32 → Int32 → Int32 → Int32 → Prop) (M : ST) (l1 : Int32) (l2 : Int32) (l3 : Int32) (l4 : Int32) (l5 : Int32) : Prop :=
  ((m_lamps M) ≤ l5 → (K43 M l1 l2 l3 l4)) ∧ (¬ (m_lamps M) ≤ l5 → (vp_in l5 12 ∧ ((¬ (m_isOut M l5.toNatClampNeg) = 0 → (rec M l1 l2 l3 l4 (l5 + 1))) ∧ ((m_isOut M l5.toNatClampNeg) = 0 → (vp_in l4 12 ∧ (∀ M1 : ST, M1 = ms_order M (upd (m_order M) l4.toNatClampNeg l5) → rec M1 l1 l2 l3 (l4 + 1) (l5 + 1)))))))
def wp_m_search_6 (K43 : ST → Int32 → Int32 → Int32 → Int32 → Prop) (post : Int32 → ST → Prop) : Nat → ST → Int32 → Int32 → Int32 → Int32 → Int32 → Prop
  | 0 => fun _ _ _ _ _ _ => False
  | n + 1 => wp_m_search_6_s K43 post (wp_m_search_6 K43 post n)
set_option maxHeartbeats 4000000 in
set_option maxRecDepth 100000 in
theorem lb_m_search_6 {κ : Cx} {g : Gx} {X : ST} (hκ : CF κ g RX10 cX10_search wq_X10_search 10 rm_m_search) {post : Int32 → ST → Prop} (hR : RtmI κ g 10 cX10_search X post) {K43 : ST → Int32 → Int32 → Int32 → Int32 → Prop} (hK43 : ∀ (M : ST) (l1 : Int32) (l2 : Int32) (l3 : Int32) (l4 : Int32), K43 M l1 l2 l3 l4 → Jw κ g 10 X M [(0, .ref (g.2.1 11)), (1, .int l1), (2, .int l2), (3, .int l3), (4, .int l4)] 43 []) : ∀ (n : Nat) (M : ST) (l1 : Int32) (l2 : Int32) (l3 : Int32) (l4 : Int32) (l5 : Int32), wp_m_search_6 K43 post n M l1 l2 l3 l4 l5 → Jw κ g 10 X M [(0, .ref (g.2.1 11)), (1, .int l1), (2, .int l2), (3, .int l3), (4, .int l4), (5, .int l5)] 6 [] := by
  intro n
  induction n with
  | zero =>
    intro M l1 l2 l3 l4 l5  h
    exact h.elim
  | succ n ih =>
    intro M l1 l2 l3 l4 l5  h
    have h : wp_m_search_6_s K43 post (wp_m_search_6 K43 post n) M l1 l2 l3 l4 l5 := h
    unfold wp_m_search_6_s at h
    refine j_iload (pc' := 8) hκ 5 rfl dX10_search_6 rfl ?_
    refine j_aload_n (pc' := 9) hκ 0 rfl rfl dX10_search_8 rfl ?_
    refine jg_11_9 (pc' := 12) hκ (mi inlX10) (fl_in hκ (mc wm_17_13)) dX10_search_9 rfl ?_
    refine j_icmp_ge (tgt := 43) (pc' := 15) hκ dX10_search_12 (by decide) rfl (fun c => ?_) (fun c => ?_)
    · replace h := h.1 c
      refine j_sub [0, 1, 2, 3, 4] rfl ?_
      exact hK43 _ _ _ _ _  h
    · replace h := h.2 c
      refine j_aload_n (pc' := 16) hκ 0 rfl rfl dX10_search_15 rfl ?_
      refine jg_11_13 (pc' := 19) hκ (mi inlX10) (fl_in hκ (mc wm_7_21)) dX10_search_16 rfl ?_
      refine j_iload (pc' := 21) hκ 5 rfl dX10_search_19 rfl ?_
      refine jm_zald (pc' := 22) hκ (ah_58 g) h.1 dX10_search_21 rfl ?_
      replace h := h.2
      refine j_if_ne (tgt := 37) (pc' := 25) hκ dX10_search_22 (by decide) rfl (fun c => ?_) (fun c => ?_)
      · replace h := h.1 c
        refine j_iinc (pc' := 40) (v := l5 + 1) (lv' := [(5, .int (l5 + 1)), (0, .ref (g.2.1 11)), (1, .int l1), (2, .int l2), (3, .int l3), (4, .int l4)]) hκ 5 rfl rfl (Nat.le_of_ble_eq_true rfl) rfl dX10_search_37 rfl ?_
        refine j_goto (pc' := 6) hκ (by decide) dX10_search_40 ?_
        refine j_sub [1, 2, 3, 4, 5, 0] rfl ?_
        exact ih _ _ _ _ _ _  h
      · replace h := h.2 c
        refine j_aload_n (pc' := 26) hκ 0 rfl rfl dX10_search_25 rfl ?_
        refine jg_11_21 (pc' := 29) hκ (mi inlX10) (fl_in hκ (mc wm_8_3)) dX10_search_26 rfl ?_
        refine j_iload (pc' := 31) hκ 4 rfl dX10_search_29 rfl ?_
        refine j_iload (pc' := 33) hκ 5 rfl dX10_search_31 rfl ?_
        refine jm_iast (pc' := 34) hκ (ah_64 g) h.1 dX10_search_33 rfl ?_
        replace h := h.2
        refine j_nmM (fun M1 eM1 => ?_)
        replace h := h M1 eM1
        refine j_iinc (pc' := 37) (v := l4 + 1) (lv' := [(4, .int (l4 + 1)), (0, .ref (g.2.1 11)), (1, .int l1), (2, .int l2), (3, .int l3), (5, .int l5)]) hκ 4 rfl rfl (Nat.le_of_ble_eq_true rfl) rfl dX10_search_34 rfl ?_
        refine j_iinc (pc' := 40) (v := l5 + 1) (lv' := [(5, .int (l5 + 1)), (4, .int (l4 + 1)), (0, .ref (g.2.1 11)), (1, .int l1), (2, .int l2), (3, .int l3)]) hκ 5 rfl rfl (Nat.le_of_ble_eq_true rfl) rfl dX10_search_37 rfl ?_
        refine j_goto (pc' := 6) hκ (by decide) dX10_search_40 ?_
        refine j_sub [2, 3, 4, 5, 1, 0] rfl ?_
        exact ih _ _ _ _ _ _  h
def wp_m_search_193_s (K220 : ST → Int32 → Int32 → Int32 → Int32 → Int32 → Prop) (post : Int32 → ST → Prop) (rec : ST → Int32 → Int32 → Int32 → Int32 → Int32 → Int32 → Prop) (M : ST) (l1 : Int32) (l2 : Int32) (l3 : Int32) (l4 : Int32) (l5 : Int32) (l9 : Int32) : Prop :=
  (l4 ≤ l9 → (K220 M l1 l2 l3 l4 l5)) ∧ (¬ l4 ≤ l9 → (vp_in l9 12 ∧ (vp_in l9 12 ∧ (∀ M9 : ST, M9 = ms_best M (upd (m_best M) l9.toNatClampNeg (m_order M l9.toNatClampNeg)) → rec M9 l1 l2 l3 l4 l5 (l9 + 1)))))
def wp_m_search_193 (K220 : ST → Int32 → Int32 → Int32 → Int32 → Int32 → Prop) (post : Int32 → ST → Prop) : Nat → ST → Int32 → Int32 → Int32 → Int32 → Int32 → Int32 → Prop
  | 0 => fun _ _ _ _ _ _ _ => False
  | n + 1 => wp_m_search_193_s K220 post (wp_m_search_193 K220 post n)
set_option maxHeartbeats 4000000 in
set_option maxRecDepth 100000 in
theorem lb_m_search_193 {κ : Cx} {g : Gx} {X : ST} (hκ : CF κ g RX10 cX10_search wq_X10_search 10 rm_m_search) {post : Int32 → ST → Prop} (hR : RtmI κ g 10 cX10_search X post) {K220 : ST → Int32 → Int32 → Int32 → Int32 → Int32 → Prop} (hK220 : ∀ (M : ST) (l1 : Int32) (l2 : Int32) (l3 : Int32) (l4 : Int32) (l5 : Int32), K220 M l1 l2 l3 l4 l5 → Jw κ g 10 X M [(0, .ref (g.2.1 11)), (1, .int l1), (2, .int l2), (3, .int l3), (4, .int l4), (5, .int l5)] 220 []) : ∀ (n : Nat) (M : ST) (l1 : Int32) (l2 : Int32) (l3 : Int32) (l4 : Int32) (l5 : Int32) (l9 : Int32), wp_m_search_193 K220 post n M l1 l2 l3 l4 l5 l9 → Jw κ g 10 X M [(0, .ref (g.2.1 11)), (1, .int l1), (2, .int l2), (3, .int l3), (4, .int l4), (5, .int l5), (9, .int l9)] 193 [] := by
  intro n
  induction n with
  | zero =>
    intro M l1 l2 l3 l4 l5 l9  h
    exact h.elim
  | succ n ih =>
    intro M l1 l2 l3 l4 l5 l9  h
    have h : wp_m_search_193_s K220 post (wp_m_search_193 K220 post n) M l1 l2 l3 l4 l5 l9 := h
    unfold wp_m_search_193_s at h
    refine j_iload (pc' := 195) hκ 6 rfl dX10_search_193 rfl ?_
    refine j_iload (pc' := 197) hκ 4 rfl dX10_search_195 rfl ?_
    refine j_icmp_ge (tgt := 220) (pc' := 200) hκ dX10_search_197 (by decide) rfl (fun c => ?_) (fun c => ?_)
    · replace h := h.1 c
      refine j_sub [0, 1, 2, 3, 4, 5] rfl ?_
      exact hK220 _ _ _ _ _ _  h
    · replace h := h.2 c
      refine j_aload_n (pc' := 201) hκ 0 rfl rfl dX10_search_200 rfl ?_
      refine jg_11_22 (pc' := 204) hκ (mi inlX10) (fl_in hκ (mc wm_8_4)) dX10_search_201 rfl ?_
      refine j_iload (pc' := 206) hκ 6 rfl dX10_search_204 rfl ?_
      refine j_aload_n (pc' := 207) hκ 0 rfl rfl dX10_search_206 rfl ?_
      refine jg_11_21 (pc' := 210) hκ (mi inlX10) (fl_in hκ (mc wm_8_3)) dX10_search_207 rfl ?_
      refine j_iload (pc' := 212) hκ 6 rfl dX10_search_210 rfl ?_
      refine jm_iald (pc' := 213) hκ (ah_64 g) h.1 dX10_search_212 rfl ?_
      replace h := h.2
      refine jm_iast (pc' := 214) hκ (ah_65 g) h.1 dX10_search_213 rfl ?_
      replace h := h.2
      refine j_nmM (fun M9 eM9 => ?_)
      replace h := h M9 eM9
      refine j_iinc (pc' := 217) (v := l9 + 1) (lv' := [(9, .int (l9 + 1)), (0, .ref (g.2.1 11)), (1, .int l1), (2, .int l2), (3, .int l3), (4, .int l4), (5, .int l5)]) hκ 6 rfl rfl (Nat.le_of_ble_eq_true rfl) rfl dX10_search_214 rfl ?_
      refine j_goto (pc' := 193) hκ (by decide) dX10_search_217 ?_
      refine j_sub [1, 2, 3, 4, 5, 6, 0] rfl ?_
      exact ih _ _ _ _ _ _ _  h
def wp_m_search_179 (K59 : ST → Int32 → Int32 → Int32 → Int32 → Int32 → Int32 → Prop) (post : Int32 → ST → Prop) (M : ST) (l1 : Int32) (l2 : Int32) (l3 : Int32) (l4 : Int32) (l5 : Int32) (l7 : Int32) (s0 : Int32) : Prop :=
  (s0 = 0 → (wp_m_nextOrder M l4 (fun r8 M7 => K59 M7 l1 l2 l3 l4 l5 r8))) ∧ (¬ s0 = 0 → (∃ n, wp_m_search_193 (fun M10 v11 v12 v13 v14 v15 => wp_m_nextOrder M10 v14 (fun r17 M16 => K59 M16 v11 v12 v13 v14 v15 r17)) post n M l1 l2 l3 l4 l7 0))
set_option maxHeartbeats 4000000 in
set_option maxRecDepth 100000 in
theorem lb_m_search_179 {κ : Cx} {g : Gx} {X : ST} (hκ : CF κ g RX10 cX10_search wq_X10_search 10 rm_m_search) {post : Int32 → ST → Prop} (hR : RtmI κ g 10 cX10_search X post) {K59 : ST → Int32 → Int32 → Int32 → Int32 → Int32 → Int32 → Prop} (hK59 : ∀ (M : ST) (l1 : Int32) (l2 : Int32) (l3 : Int32) (l4 : Int32) (l5 : Int32) (l6 : Int32), K59 M l1 l2 l3 l4 l5 l6 → Jw κ g 10 X M [(0, .ref (g.2.1 11)), (1, .int l1), (2, .int l2), (3, .int l3), (4, .int l4), (5, .int l5), (6, .int l6)] 59 []) : ∀ (M : ST) (l1 : Int32) (l2 : Int32) (l3 : Int32) (l4 : Int32) (l5 : Int32) (l7 : Int32) (s0 : Int32), wp_m_search_179 K59 post M l1 l2 l3 l4 l5 l7 s0 → Jw κ g 10 X M [(0, .ref (g.2.1 11)), (1, .int l1), (2, .int l2), (3, .int l3), (4, .int l4), (5, .int l5), (7, .int l7)] 179 [.int s0] := by
  intro M l1 l2 l3 l4 l5 l7 s0  h
  unfold wp_m_search_179 at h
  refine j_istore (pc' := 181) (lv' := [(8, .int s0), (0, .ref (g.2.1 11)), (1, .int l1), (2, .int l2), (3, .int l3), (4, .int l4), (5, .int l5), (7, .int l7)]) hκ (Nat.le_of_ble_eq_true rfl) rfl dX10_search_179 rfl ?_
  refine j_iload (pc' := 183) hκ 0 rfl dX10_search_181 rfl ?_
  refine j_if_eq (tgt := 220) (pc' := 186) hκ dX10_search_183 (by decide) rfl (fun c => ?_) (fun c => ?_)
  · replace h := h.1 c
    refine j_aload_n (pc' := 221) hκ 1 rfl rfl dX10_search_220 rfl ?_
    refine j_iload (pc' := 223) hκ 5 rfl dX10_search_221 rfl ?_
    refine jm_callVi (pc' := 226) hκ (c_m_nextOrder (dg hκ) h) rfl rfl rfl (gV wm_25_3 wm_25_4 wm_25_5 wm_1_5 wm_25_6) hqV_X10_nextOrder ⟨Nat.le_of_ble_eq_true rfl, Nat.le_of_ble_eq_true rfl⟩ (wg_11 g _ _) rfl rfl rfl (Nat.le_of_ble_eq_true rfl) dX10_search_223 rfl (fun r8 M7 h => ?_)
    refine j_istore (pc' := 228) (lv' := [(6, .int r8), (8, .int s0), (0, .ref (g.2.1 11)), (1, .int l1), (2, .int l2), (3, .int l3), (4, .int l4), (5, .int l5), (7, .int l7)]) hκ (Nat.le_of_ble_eq_true rfl) rfl dX10_search_226 rfl ?_
    refine j_goto (pc' := 59) hκ (by decide) dX10_search_228 ?_
    refine j_sub [2, 3, 4, 5, 6, 7, 0] rfl ?_
    exact hK59 _ _ _ _ _ _ _  h
  · replace h := h.2 c
    refine j_iload (pc' := 188) hκ 7 rfl dX10_search_186 rfl ?_
    refine j_istore (pc' := 190) (lv' := [(5, .int l7), (8, .int s0), (0, .ref (g.2.1 11)), (1, .int l1), (2, .int l2), (3, .int l3), (4, .int l4), (7, .int l7)]) hκ (Nat.le_of_ble_eq_true rfl) rfl dX10_search_188 rfl ?_
    refine j_iconst (pc' := 191) (v := 0) hκ (by decide) dX10_search_190 rfl ?_
    refine j_istore (pc' := 193) (lv' := [(9, .int 0), (5, .int l7), (8, .int s0), (0, .ref (g.2.1 11)), (1, .int l1), (2, .int l2), (3, .int l3), (4, .int l4), (7, .int l7)]) hκ (Nat.le_of_ble_eq_true rfl) rfl dX10_search_191 rfl ?_
    obtain ⟨n, h⟩ := h
    refine j_sub [3, 4, 5, 6, 7, 1, 0] rfl ?_
    refine lb_m_search_193 hκ hR ?_ n _ _ _ _ _ _ _  h
    intro M10 v11 v12 v13 v14 v15  h
    refine j_aload_n (pc' := 221) hκ 0 rfl rfl dX10_search_220 rfl ?_
    refine j_iload (pc' := 223) hκ 4 rfl dX10_search_221 rfl ?_
    refine jm_callVi (pc' := 226) hκ (c_m_nextOrder (dg hκ) h) rfl rfl rfl (gV wm_25_3 wm_25_4 wm_25_5 wm_1_5 wm_25_6) hqV_X10_nextOrder ⟨Nat.le_of_ble_eq_true rfl, Nat.le_of_ble_eq_true rfl⟩ (wg_11 g _ _) rfl rfl rfl (Nat.le_of_ble_eq_true rfl) dX10_search_223 rfl (fun r17 M16 h => ?_)
    refine j_istore (pc' := 228) (lv' := [(6, .int r17), (0, .ref (g.2.1 11)), (1, .int v11), (2, .int v12), (3, .int v13), (4, .int v14), (5, .int v15)]) hκ (Nat.le_of_ble_eq_true rfl) rfl dX10_search_226 rfl ?_
    refine j_goto (pc' := 59) hκ (by decide) dX10_search_228 ?_
    refine j_sub [1, 2, 3, 4, 5, 6, 0] rfl ?_
    exact hK59 _ _ _ _ _ _ _  h
def wp_m_search_178 (K59 : ST → Int32 → Int32 → Int32 → Int32 → Int32 → Int32 → Prop) (post : Int32 → ST → Prop) (M : ST) (l1 : Int32) (l2 : Int32) (l3 : Int32) (l4 : Int32) (l5 : Int32) (l7 : Int32) : Prop :=
  wp_m_search_179 K59 post M l1 l2 l3 l4 l5 l7 0
set_option maxHeartbeats 4000000 in
set_option maxRecDepth 100000 in
theorem lb_m_search_178 {κ : Cx} {g : Gx} {X : ST} (hκ : CF κ g RX10 cX10_search wq_X10_search 10 rm_m_search) {post : Int32 → ST → Prop} (hR : RtmI κ g 10 cX10_search X post) {K59 : ST → Int32 → Int32 → Int32 → Int32 → Int32 → Int32 → Prop} (hK59 : ∀ (M : ST) (l1 : Int32) (l2 : Int32) (l3 : Int32) (l4 : Int32) (l5 : Int32) (l6 : Int32), K59 M l1 l2 l3 l4 l5 l6 → Jw κ g 10 X M [(0, .ref (g.2.1 11)), (1, .int l1), (2, .int l2), (3, .int l3), (4, .int l4), (5, .int l5), (6, .int l6)] 59 []) : ∀ (M : ST) (l1 : Int32) (l2 : Int32) (l3 : Int32) (l4 : Int32) (l5 : Int32) (l7 : Int32), wp_m_search_178 K59 post M l1 l2 l3 l4 l5 l7 → Jw κ g 10 X M [(0, .ref (g.2.1 11)), (1, .int l1), (2, .int l2), (3, .int l3), (4, .int l4), (5, .int l5), (7, .int l7)] 178 [] := by
  intro M l1 l2 l3 l4 l5 l7  h
  unfold wp_m_search_178 at h
  refine j_iconst (pc' := 179) (v := 0) hκ (by decide) dX10_search_178 rfl ?_
  refine lb_m_search_179 hκ hR hK59 _ _ _ _ _ _ _ _  h
def wp_m_search_174 (K59 : ST → Int32 → Int32 → Int32 → Int32 → Int32 → Int32 → Prop) (post : Int32 → ST → Prop) (M : ST) (l1 : Int32) (l2 : Int32) (l3 : Int32) (l4 : Int32) (l5 : Int32) (l7 : Int32) : Prop :=
  wp_m_search_179 K59 post M l1 l2 l3 l4 l5 l7 1
set_option maxHeartbeats 4000000 in
set_option maxRecDepth 100000 in
theorem lb_m_search_174 {κ : Cx} {g : Gx} {X : ST} (hκ : CF κ g RX10 cX10_search wq_X10_search 10 rm_m_search) {post : Int32 → ST → Prop} (hR : RtmI κ g 10 cX10_search X post) {K59 : ST → Int32 → Int32 → Int32 → Int32 → Int32 → Int32 → Prop} (hK59 : ∀ (M : ST) (l1 : Int32) (l2 : Int32) (l3 : Int32) (l4 : Int32) (l5 : Int32) (l6 : Int32), K59 M l1 l2 l3 l4 l5 l6 → Jw κ g 10 X M [(0, .ref (g.2.1 11)), (1, .int l1), (2, .int l2), (3, .int l3), (4, .int l4), (5, .int l5), (6, .int l6)] 59 []) : ∀ (M : ST) (l1 : Int32) (l2 : Int32) (l3 : Int32) (l4 : Int32) (l5 : Int32) (l7 : Int32), wp_m_search_174 K59 post M l1 l2 l3 l4 l5 l7 → Jw κ g 10 X M [(0, .ref (g.2.1 11)), (1, .int l1), (2, .int l2), (3, .int l3), (4, .int l4), (5, .int l5), (7, .int l7)] 174 [] := by
  intro M l1 l2 l3 l4 l5 l7  h
  unfold wp_m_search_174 at h
  refine j_iconst (pc' := 175) (v := 1) hκ (by decide) dX10_search_174 rfl ?_
  refine j_goto (pc' := 179) hκ (by decide) dX10_search_175 ?_
  refine lb_m_search_179 hκ hR hK59 _ _ _ _ _ _ _ _  h
def wp_m_search_171 (K59 : ST → Int32 → Int32 → Int32 → Int32 → Int32 → Int32 → Prop) (post : Int32 → ST → Prop) (M : ST) (l1 : Int32) (l2 : Int32) (l3 : Int32) (l4 : Int32) (l5 : Int32) (l7 : Int32) (s0 : Int32) (s1 : Int32) : Prop :=
  (¬ s1 = s0 → (wp_m_search_178 K59 post M l1 l2 l3 l4 l5 l7)) ∧ (s1 = s0 → (wp_m_search_174 K59 post M l1 l2 l3 l4 l5 l7))
set_option maxHeartbeats 4000000 in
set_option maxRecDepth 100000 in
theorem lb_m_search_171 {κ : Cx} {g : Gx} {X : ST} (hκ : CF κ g RX10 cX10_search wq_X10_search 10 rm_m_search) {post : Int32 → ST → Prop} (hR : RtmI κ g 10 cX10_search X post) {K59 : ST → Int32 → Int32 → Int32 → Int32 → Int32 → Int32 → Prop} (hK59 : ∀ (M : ST) (l1 : Int32) (l2 : Int32) (l3 : Int32) (l4 : Int32) (l5 : Int32) (l6 : Int32), K59 M l1 l2 l3 l4 l5 l6 → Jw κ g 10 X M [(0, .ref (g.2.1 11)), (1, .int l1), (2, .int l2), (3, .int l3), (4, .int l4), (5, .int l5), (6, .int l6)] 59 []) : ∀ (M : ST) (l1 : Int32) (l2 : Int32) (l3 : Int32) (l4 : Int32) (l5 : Int32) (l7 : Int32) (s0 : Int32) (s1 : Int32), wp_m_search_171 K59 post M l1 l2 l3 l4 l5 l7 s0 s1 → Jw κ g 10 X M [(0, .ref (g.2.1 11)), (1, .int l1), (2, .int l2), (3, .int l3), (4, .int l4), (5, .int l5), (7, .int l7)] 171 [.int s0, .int s1] := by
  intro M l1 l2 l3 l4 l5 l7 s0 s1  h
  unfold wp_m_search_171 at h
  refine j_icmp_ne (tgt := 178) (pc' := 174) hκ dX10_search_171 (by decide) rfl (fun c => ?_) (fun c => ?_)
  · replace h := h.1 c
    refine lb_m_search_178 hκ hR hK59 _ _ _ _ _ _ _  h
  · replace h := h.2 c
    refine lb_m_search_174 hκ hR hK59 _ _ _ _ _ _ _  h
def wp_m_search_145 (K59 : ST → Int32 → Int32 → Int32 → Int32 → Int32 → Int32 → Prop) (post : Int32 → ST → Prop) (M : ST) (l1 : Int32) (l2 : Int32) (l3 : Int32) (l4 : Int32) (l5 : Int32) (l7 : Int32) : Prop :=
  (l1 < 2 → (wp_m_search_174 K59 post M l1 l2 l3 l4 l5 l7)) ∧ (¬ l1 < 2 → (wp_m_areBeside M 64 12 l4 l2 l3 (fun r19 M18 => (¬ l1 = 2 → (wp_m_search_171 K59 post M18 l1 l2 l3 l4 l5 l7 0 r19)) ∧ (l1 = 2 → (wp_m_search_171 K59 post M18 l1 l2 l3 l4 l5 l7 1 r19)))))
set_option maxHeartbeats 4000000 in
set_option maxRecDepth 100000 in
theorem lb_m_search_145 {κ : Cx} {g : Gx} {X : ST} (hκ : CF κ g RX10 cX10_search wq_X10_search 10 rm_m_search) {post : Int32 → ST → Prop} (hR : RtmI κ g 10 cX10_search X post) {K59 : ST → Int32 → Int32 → Int32 → Int32 → Int32 → Int32 → Prop} (hK59 : ∀ (M : ST) (l1 : Int32) (l2 : Int32) (l3 : Int32) (l4 : Int32) (l5 : Int32) (l6 : Int32), K59 M l1 l2 l3 l4 l5 l6 → Jw κ g 10 X M [(0, .ref (g.2.1 11)), (1, .int l1), (2, .int l2), (3, .int l3), (4, .int l4), (5, .int l5), (6, .int l6)] 59 []) : ∀ (M : ST) (l1 : Int32) (l2 : Int32) (l3 : Int32) (l4 : Int32) (l5 : Int32) (l7 : Int32), wp_m_search_145 K59 post M l1 l2 l3 l4 l5 l7 → Jw κ g 10 X M [(0, .ref (g.2.1 11)), (1, .int l1), (2, .int l2), (3, .int l3), (4, .int l4), (5, .int l5), (7, .int l7)] 145 [] := by
  intro M l1 l2 l3 l4 l5 l7  h
  unfold wp_m_search_145 at h
  refine j_iload_n (pc' := 146) hκ 1 rfl rfl dX10_search_145 rfl ?_
  refine j_iconst (pc' := 147) (v := 2) hκ (by decide) dX10_search_146 rfl ?_
  refine j_icmp_lt (tgt := 174) (pc' := 150) hκ dX10_search_147 (by decide) rfl (fun c => ?_) (fun c => ?_)
  · replace h := h.1 c
    refine lb_m_search_174 hκ hR hK59 _ _ _ _ _ _ _  h
  · replace h := h.2 c
    refine j_aload_n (pc' := 151) hκ 0 rfl rfl dX10_search_150 rfl ?_
    refine jg_11_21 (pc' := 154) hκ (mi inlX10) (fl_in hκ (mc wm_8_3)) dX10_search_151 rfl ?_
    refine j_iload (pc' := 156) hκ 4 rfl dX10_search_154 rfl ?_
    refine j_iload_n (pc' := 157) hκ 2 rfl rfl dX10_search_156 rfl ?_
    refine j_iload_n (pc' := 158) hκ 3 rfl rfl dX10_search_157 rfl ?_
    refine jm_callSi (pc' := 161) hκ (c_m_areBeside (dg hκ) (ah_64 g) h) rfl rfl rfl (gS wm_24_17 wm_24_18 wm_1_5 wm_24_19) hqS_X10_areBeside ⟨Nat.le_of_ble_eq_true rfl, Nat.le_of_ble_eq_true rfl⟩ rfl rfl (Nat.le_of_ble_eq_true rfl) dX10_search_158 rfl (fun r19 M18 h => ?_)
    refine j_iload_n (pc' := 162) hκ 1 rfl rfl dX10_search_161 rfl ?_
    refine j_iconst (pc' := 163) (v := 2) hκ (by decide) dX10_search_162 rfl ?_
    refine j_icmp_ne (tgt := 170) (pc' := 166) hκ dX10_search_163 (by decide) rfl (fun c => ?_) (fun c => ?_)
    · replace h := h.1 c
      refine j_iconst (pc' := 171) (v := 0) hκ (by decide) dX10_search_170 rfl ?_
      refine lb_m_search_171 hκ hR hK59 _ _ _ _ _ _ _ _ _  h
    · replace h := h.2 c
      refine j_iconst (pc' := 167) (v := 1) hκ (by decide) dX10_search_166 rfl ?_
      refine j_goto (pc' := 171) hκ (by decide) dX10_search_167 ?_
      refine lb_m_search_171 hκ hR hK59 _ _ _ _ _ _ _ _ _  h
def wp_m_search_124 (K59 : ST → Int32 → Int32 → Int32 → Int32 → Int32 → Int32 → Prop) (post : Int32 → ST → Prop) (M : ST) (l1 : Int32) (l2 : Int32) (l3 : Int32) (l4 : Int32) (l5 : Int32) (l7 : Int32) (s0 : Int32) : Prop :=
  (s0 = 0 → (wp_m_search_178 K59 post M l1 l2 l3 l4 l5 l7)) ∧ (¬ s0 = 0 → ((¬ l1 = 1 → (wp_m_search_145 K59 post M l1 l2 l3 l4 l5 l7)) ∧ (l1 = 1 → (wp_m_isWritten M l4 (fun r21 M20 => (¬ r21 = 0 → (wp_m_search_178 K59 post M20 l1 l2 l3 l4 l5 l7)) ∧ (r21 = 0 → (wp_m_search_145 K59 post M20 l1 l2 l3 l4 l5 l7)))))))
set_option maxHeartbeats 4000000 in
set_option maxRecDepth 100000 in
theorem lb_m_search_124 {κ : Cx} {g : Gx} {X : ST} (hκ : CF κ g RX10 cX10_search wq_X10_search 10 rm_m_search) {post : Int32 → ST → Prop} (hR : RtmI κ g 10 cX10_search X post) {K59 : ST → Int32 → Int32 → Int32 → Int32 → Int32 → Int32 → Prop} (hK59 : ∀ (M : ST) (l1 : Int32) (l2 : Int32) (l3 : Int32) (l4 : Int32) (l5 : Int32) (l6 : Int32), K59 M l1 l2 l3 l4 l5 l6 → Jw κ g 10 X M [(0, .ref (g.2.1 11)), (1, .int l1), (2, .int l2), (3, .int l3), (4, .int l4), (5, .int l5), (6, .int l6)] 59 []) : ∀ (M : ST) (l1 : Int32) (l2 : Int32) (l3 : Int32) (l4 : Int32) (l5 : Int32) (l7 : Int32) (s0 : Int32), wp_m_search_124 K59 post M l1 l2 l3 l4 l5 l7 s0 → Jw κ g 10 X M [(0, .ref (g.2.1 11)), (1, .int l1), (2, .int l2), (3, .int l3), (4, .int l4), (5, .int l5), (7, .int l7)] 124 [.int s0] := by
  intro M l1 l2 l3 l4 l5 l7 s0  h
  unfold wp_m_search_124 at h
  refine j_istore (pc' := 126) (lv' := [(8, .int s0), (0, .ref (g.2.1 11)), (1, .int l1), (2, .int l2), (3, .int l3), (4, .int l4), (5, .int l5), (7, .int l7)]) hκ (Nat.le_of_ble_eq_true rfl) rfl dX10_search_124 rfl ?_
  refine j_iload (pc' := 128) hκ 0 rfl dX10_search_126 rfl ?_
  refine j_if_eq (tgt := 178) (pc' := 131) hκ dX10_search_128 (by decide) rfl (fun c => ?_) (fun c => ?_)
  · replace h := h.1 c
    refine j_sub [1, 2, 3, 4, 5, 6, 7] rfl ?_
    refine lb_m_search_178 hκ hR hK59 _ _ _ _ _ _ _  h
  · replace h := h.2 c
    refine j_iload_n (pc' := 132) hκ 2 rfl rfl dX10_search_131 rfl ?_
    refine j_iconst (pc' := 133) (v := 1) hκ (by decide) dX10_search_132 rfl ?_
    refine j_icmp_ne (tgt := 145) (pc' := 136) hκ dX10_search_133 (by decide) rfl (fun c => ?_) (fun c => ?_)
    · replace h := h.1 c
      refine j_sub [1, 2, 3, 4, 5, 6, 7] rfl ?_
      refine lb_m_search_145 hκ hR hK59 _ _ _ _ _ _ _  h
    · replace h := h.2 c
      refine j_aload_n (pc' := 137) hκ 1 rfl rfl dX10_search_136 rfl ?_
      refine j_iload (pc' := 139) hκ 5 rfl dX10_search_137 rfl ?_
      refine jm_callVi (pc' := 142) hκ (c_m_isWritten (dg hκ) h) rfl rfl rfl (gV wm_24_23 wm_25_0 wm_25_1 wm_1_5 wm_25_2) hqV_X10_isWritten ⟨Nat.le_of_ble_eq_true rfl, Nat.le_of_ble_eq_true rfl⟩ (wg_11 g _ _) rfl rfl rfl (Nat.le_of_ble_eq_true rfl) dX10_search_139 rfl (fun r21 M20 h => ?_)
      refine j_if_ne (tgt := 178) (pc' := 145) hκ dX10_search_142 (by decide) rfl (fun c => ?_) (fun c => ?_)
      · replace h := h.1 c
        refine j_sub [1, 2, 3, 4, 5, 6, 7] rfl ?_
        refine lb_m_search_178 hκ hR hK59 _ _ _ _ _ _ _  h
      · replace h := h.2 c
        refine j_sub [1, 2, 3, 4, 5, 6, 7] rfl ?_
        refine lb_m_search_145 hκ hR hK59 _ _ _ _ _ _ _  h
def wp_m_search_123 (K59 : ST → Int32 → Int32 → Int32 → Int32 → Int32 → Int32 → Prop) (post : Int32 → ST → Prop) (M : ST) (l1 : Int32) (l2 : Int32) (l3 : Int32) (l4 : Int32) (l5 : Int32) (l7 : Int32) : Prop :=
  wp_m_search_124 K59 post M l1 l2 l3 l4 l5 l7 0
set_option maxHeartbeats 4000000 in
set_option maxRecDepth 100000 in
theorem lb_m_search_123 {κ : Cx} {g : Gx} {X : ST} (hκ : CF κ g RX10 cX10_search wq_X10_search 10 rm_m_search) {post : Int32 → ST → Prop} (hR : RtmI κ g 10 cX10_search X post) {K59 : ST → Int32 → Int32 → Int32 → Int32 → Int32 → Int32 → Prop} (hK59 : ∀ (M : ST) (l1 : Int32) (l2 : Int32) (l3 : Int32) (l4 : Int32) (l5 : Int32) (l6 : Int32), K59 M l1 l2 l3 l4 l5 l6 → Jw κ g 10 X M [(0, .ref (g.2.1 11)), (1, .int l1), (2, .int l2), (3, .int l3), (4, .int l4), (5, .int l5), (6, .int l6)] 59 []) : ∀ (M : ST) (l1 : Int32) (l2 : Int32) (l3 : Int32) (l4 : Int32) (l5 : Int32) (l7 : Int32), wp_m_search_123 K59 post M l1 l2 l3 l4 l5 l7 → Jw κ g 10 X M [(0, .ref (g.2.1 11)), (1, .int l1), (2, .int l2), (3, .int l3), (4, .int l4), (5, .int l5), (7, .int l7)] 123 [] := by
  intro M l1 l2 l3 l4 l5 l7  h
  unfold wp_m_search_123 at h
  refine j_iconst (pc' := 124) (v := 0) hκ (by decide) dX10_search_123 rfl ?_
  refine lb_m_search_124 hκ hR hK59 _ _ _ _ _ _ _ _  h
def wp_m_search_97 (K59 : ST → Int32 → Int32 → Int32 → Int32 → Int32 → Int32 → Prop) (post : Int32 → ST → Prop) (M : ST) (l1 : Int32) (l2 : Int32) (l3 : Int32) (l4 : Int32) (l5 : Int32) (s0 : Int32) : Prop :=
  (l5 ≤ s0 → (wp_m_search_123 K59 post M l1 l2 l3 l4 l5 s0)) ∧ (¬ l5 ≤ s0 → (wp_m_keepsTwins M 64 12 l4 (fun r23 M22 => (r23 = 0 → (wp_m_search_123 K59 post M22 l1 l2 l3 l4 l5 s0)) ∧ (¬ r23 = 0 → (wp_m_search_124 K59 post M22 l1 l2 l3 l4 l5 s0 1)))))
set_option maxHeartbeats 4000000 in
set_option maxRecDepth 100000 in
theorem lb_m_search_97 {κ : Cx} {g : Gx} {X : ST} (hκ : CF κ g RX10 cX10_search wq_X10_search 10 rm_m_search) {post : Int32 → ST → Prop} (hR : RtmI κ g 10 cX10_search X post) {K59 : ST → Int32 → Int32 → Int32 → Int32 → Int32 → Int32 → Prop} (hK59 : ∀ (M : ST) (l1 : Int32) (l2 : Int32) (l3 : Int32) (l4 : Int32) (l5 : Int32) (l6 : Int32), K59 M l1 l2 l3 l4 l5 l6 → Jw κ g 10 X M [(0, .ref (g.2.1 11)), (1, .int l1), (2, .int l2), (3, .int l3), (4, .int l4), (5, .int l5), (6, .int l6)] 59 []) : ∀ (M : ST) (l1 : Int32) (l2 : Int32) (l3 : Int32) (l4 : Int32) (l5 : Int32) (s0 : Int32), wp_m_search_97 K59 post M l1 l2 l3 l4 l5 s0 → Jw κ g 10 X M [(0, .ref (g.2.1 11)), (1, .int l1), (2, .int l2), (3, .int l3), (4, .int l4), (5, .int l5)] 97 [.int s0] := by
  intro M l1 l2 l3 l4 l5 s0  h
  unfold wp_m_search_97 at h
  refine j_istore (pc' := 99) (lv' := [(7, .int s0), (0, .ref (g.2.1 11)), (1, .int l1), (2, .int l2), (3, .int l3), (4, .int l4), (5, .int l5)]) hκ (Nat.le_of_ble_eq_true rfl) rfl dX10_search_97 rfl ?_
  refine j_iload (pc' := 101) hκ 0 rfl dX10_search_99 rfl ?_
  refine j_iload (pc' := 103) hκ 6 rfl dX10_search_101 rfl ?_
  refine j_icmp_ge (tgt := 123) (pc' := 106) hκ dX10_search_103 (by decide) rfl (fun c => ?_) (fun c => ?_)
  · replace h := h.1 c
    refine j_sub [1, 2, 3, 4, 5, 6, 0] rfl ?_
    refine lb_m_search_123 hκ hR hK59 _ _ _ _ _ _ _  h
  · replace h := h.2 c
    refine j_aload_n (pc' := 107) hκ 1 rfl rfl dX10_search_106 rfl ?_
    refine j_aload_n (pc' := 108) hκ 1 rfl rfl dX10_search_107 rfl ?_
    refine jg_11_21 (pc' := 111) hκ (mi inlX10) (fl_in hκ (mc wm_8_3)) dX10_search_108 rfl ?_
    refine j_iload (pc' := 113) hκ 5 rfl dX10_search_111 rfl ?_
    refine jm_callVi (pc' := 116) hκ (c_m_keepsTwins (dg hκ) (ah_64 g) h) rfl rfl rfl (gV wm_24_13 wm_24_14 wm_24_15 wm_1_5 wm_24_16) hqV_X10_keepsTwins ⟨Nat.le_of_ble_eq_true rfl, Nat.le_of_ble_eq_true rfl⟩ (wg_11 g _ _) rfl rfl rfl (Nat.le_of_ble_eq_true rfl) dX10_search_113 rfl (fun r23 M22 h => ?_)
    refine j_if_eq (tgt := 123) (pc' := 119) hκ dX10_search_116 (by decide) rfl (fun c => ?_) (fun c => ?_)
    · replace h := h.1 c
      refine j_sub [1, 2, 3, 4, 5, 6, 0] rfl ?_
      refine lb_m_search_123 hκ hR hK59 _ _ _ _ _ _ _  h
    · replace h := h.2 c
      refine j_iconst (pc' := 120) (v := 1) hκ (by decide) dX10_search_119 rfl ?_
      refine j_goto (pc' := 124) hκ (by decide) dX10_search_120 ?_
      refine j_sub [1, 2, 3, 4, 5, 6, 0] rfl ?_
      refine lb_m_search_124 hκ hR hK59 _ _ _ _ _ _ _ _  h
def wp_m_search_59_s (K231 : ST → Int32 → Prop) (post : Int32 → ST → Prop) (rec : ST → Int32 → Int32 → Int32 → Int32 → Int32 → Int32 → Prop) (M : ST) (l1 : Int32) (l2 : Int32) (l3 : Int32) (l4 : Int32) (l5 : Int32) (l6 : Int32) : Prop :=
  (l6 = 0 → (K231 M l5)) ∧ (¬ l6 = 0 → (vp_in 1 12 ∧ (vp_in (l4 - 1) 12 ∧ (((m_order M (l4 - 1).toNatClampNeg) ≤ (m_order M (1 : Int32).toNatClampNeg) → (wp_m_search_97 rec post M l1 l2 l3 l4 l5 1000000000)) ∧ (¬ (m_order M (l4 - 1).toNatClampNeg) ≤ (m_order M (1 : Int32).toNatClampNeg) → (wp_m_lengthOf M 64 12 l4 (fun r25 M24 => wp_m_search_97 rec post M24 l1 l2 l3 l4 l5 r25)))))))
def wp_m_search_59 (K231 : ST → Int32 → Prop) (post : Int32 → ST → Prop) : Nat → ST → Int32 → Int32 → Int32 → Int32 → Int32 → Int32 → Prop
  | 0 => fun _ _ _ _ _ _ _ => False
  | n + 1 => wp_m_search_59_s K231 post (wp_m_search_59 K231 post n)
set_option maxHeartbeats 4000000 in
set_option maxRecDepth 100000 in
theorem lb_m_search_59 {κ : Cx} {g : Gx} {X : ST} (hκ : CF κ g RX10 cX10_search wq_X10_search 10 rm_m_search) {post : Int32 → ST → Prop} (hR : RtmI κ g 10 cX10_search X post) {K231 : ST → Int32 → Prop} (hK231 : ∀ (M : ST) (l5 : Int32), K231 M l5 → Jw κ g 10 X M [(5, .int l5)] 231 []) : ∀ (n : Nat) (M : ST) (l1 : Int32) (l2 : Int32) (l3 : Int32) (l4 : Int32) (l5 : Int32) (l6 : Int32), wp_m_search_59 K231 post n M l1 l2 l3 l4 l5 l6 → Jw κ g 10 X M [(0, .ref (g.2.1 11)), (1, .int l1), (2, .int l2), (3, .int l3), (4, .int l4), (5, .int l5), (6, .int l6)] 59 [] := by
  intro n
  induction n with
  | zero =>
    intro M l1 l2 l3 l4 l5 l6  h
    exact h.elim
  | succ n ih =>
    intro M l1 l2 l3 l4 l5 l6  h
    have h : wp_m_search_59_s K231 post (wp_m_search_59 K231 post n) M l1 l2 l3 l4 l5 l6 := h
    unfold wp_m_search_59_s at h
    refine j_iload (pc' := 61) hκ 6 rfl dX10_search_59 rfl ?_
    refine j_if_eq (tgt := 231) (pc' := 64) hκ dX10_search_61 (by decide) rfl (fun c => ?_) (fun c => ?_)
    · replace h := h.1 c
      refine j_sub [5] rfl ?_
      exact hK231 _ _  h
    · replace h := h.2 c
      refine j_aload_n (pc' := 65) hκ 0 rfl rfl dX10_search_64 rfl ?_
      refine jg_11_21 (pc' := 68) hκ (mi inlX10) (fl_in hκ (mc wm_8_3)) dX10_search_65 rfl ?_
      refine j_iconst (pc' := 69) (v := 1) hκ (by decide) dX10_search_68 rfl ?_
      refine jm_iald (pc' := 70) hκ (ah_64 g) h.1 dX10_search_69 rfl ?_
      replace h := h.2
      refine j_aload_n (pc' := 71) hκ 0 rfl rfl dX10_search_70 rfl ?_
      refine jg_11_21 (pc' := 74) hκ (mi inlX10) (fl_in hκ (mc wm_8_3)) dX10_search_71 rfl ?_
      refine j_iload (pc' := 76) hκ 4 rfl dX10_search_74 rfl ?_
      refine j_iconst (pc' := 77) (v := 1) hκ (by decide) dX10_search_76 rfl ?_
      refine j_isub (pc' := 78) hκ dX10_search_77 rfl ?_
      refine jm_iald (pc' := 79) hκ (ah_64 g) h.1 dX10_search_78 rfl ?_
      replace h := h.2
      refine j_icmp_ge (tgt := 95) (pc' := 82) hκ dX10_search_79 (by decide) rfl (fun c => ?_) (fun c => ?_)
      · replace h := h.1 c
        refine j_ldc (pc' := 97) hκ (mc wm_8_19) dX10_search_95 rfl ?_
        refine j_sub [0, 1, 2, 3, 4, 5] rfl ?_
        refine lb_m_search_97 hκ hR ih _ _ _ _ _ _ _  h
      · replace h := h.2 c
        refine j_aload_n (pc' := 83) hκ 0 rfl rfl dX10_search_82 rfl ?_
        refine j_aload_n (pc' := 84) hκ 0 rfl rfl dX10_search_83 rfl ?_
        refine jg_11_21 (pc' := 87) hκ (mi inlX10) (fl_in hκ (mc wm_8_3)) dX10_search_84 rfl ?_
        refine j_iload (pc' := 89) hκ 4 rfl dX10_search_87 rfl ?_
        refine jm_callVi (pc' := 92) hκ (c_m_lengthOf (dg hκ) (ah_64 g) h) rfl rfl rfl (gV wm_24_9 wm_24_10 wm_24_11 wm_1_5 wm_24_12) hqV_X10_lengthOf ⟨Nat.le_of_ble_eq_true rfl, Nat.le_of_ble_eq_true rfl⟩ (wg_11 g _ _) rfl rfl rfl (Nat.le_of_ble_eq_true rfl) dX10_search_89 rfl (fun r25 M24 h => ?_)
        refine j_goto (pc' := 97) hκ (by decide) dX10_search_92 ?_
        refine j_sub [0, 1, 2, 3, 4, 5] rfl ?_
        refine lb_m_search_97 hκ hR ih _ _ _ _ _ _ _  h
def wp_m_search (M : ST) (p1 : Int32) (p2 : Int32) (p3 : Int32) (post : Int32 → ST → Prop) : Prop :=
  ∃ n, wp_m_search_6 (fun M2 v3 v4 v5 v6 => (3 ≤ v6 → (∃ n, wp_m_search_59 (fun M26 v27 => post v27 M26) post n M2 v3 v4 v5 v6 1000000000 1)) ∧ (¬ 3 ≤ v6 → (post 1000000000 M2))) post n M p1 p2 p3 0 0
set_option maxHeartbeats 4000000 in
set_option maxRecDepth 100000 in
theorem lb_m_search {κ : Cx} {g : Gx} {X : ST} (hκ : CF κ g RX10 cX10_search wq_X10_search 10 rm_m_search) {post : Int32 → ST → Prop} (hR : RtmI κ g 10 cX10_search X post) {M : ST} {p1 : Int32} {p2 : Int32} {p3 : Int32} (h : wp_m_search M p1 p2 p3 post) : Jw κ g 10 X M [(0, .ref (g.2.1 11)), (1, .int p1), (2, .int p2), (3, .int p3)] 0 [] := by
  unfold wp_m_search at h
  refine j_iconst (pc' := 1) (v := 0) hκ (by decide) dX10_search_0 rfl ?_
  refine j_istore (pc' := 3) (lv' := [(4, .int 0), (0, .ref (g.2.1 11)), (1, .int p1), (2, .int p2), (3, .int p3)]) hκ (Nat.le_of_ble_eq_true rfl) rfl dX10_search_1 rfl ?_
  refine j_iconst (pc' := 4) (v := 0) hκ (by decide) dX10_search_3 rfl ?_
  refine j_istore (pc' := 6) (lv' := [(5, .int 0), (4, .int 0), (0, .ref (g.2.1 11)), (1, .int p1), (2, .int p2), (3, .int p3)]) hκ (Nat.le_of_ble_eq_true rfl) rfl dX10_search_4 rfl ?_
  obtain ⟨n, h⟩ := h
  refine j_sub [2, 3, 4, 5, 1, 0] rfl ?_
  refine lb_m_search_6 hκ hR ?_ n _ _ _ _ _ _  h
  intro M2 v3 v4 v5 v6  h
  refine j_iload (pc' := 45) hκ 4 rfl dX10_search_43 rfl ?_
  refine j_iconst (pc' := 46) (v := 3) hκ (by decide) dX10_search_45 rfl ?_
  refine j_icmp_ge (tgt := 52) (pc' := 49) hκ dX10_search_46 (by decide) rfl (fun c => ?_) (fun c => ?_)
  · replace h := h.1 c
    refine j_ldc (pc' := 54) hκ (mc wm_8_19) dX10_search_52 rfl ?_
    refine j_istore (pc' := 56) (lv' := [(5, .int 1000000000), (0, .ref (g.2.1 11)), (1, .int v3), (2, .int v4), (3, .int v5), (4, .int v6)]) hκ (Nat.le_of_ble_eq_true rfl) rfl dX10_search_54 rfl ?_
    refine j_iconst (pc' := 57) (v := 1) hκ (by decide) dX10_search_56 rfl ?_
    refine j_istore (pc' := 59) (lv' := [(6, .int 1), (5, .int 1000000000), (0, .ref (g.2.1 11)), (1, .int v3), (2, .int v4), (3, .int v5), (4, .int v6)]) hκ (Nat.le_of_ble_eq_true rfl) rfl dX10_search_57 rfl ?_
    obtain ⟨n, h⟩ := h
    refine j_sub [2, 3, 4, 5, 6, 1, 0] rfl ?_
    refine lb_m_search_59 hκ hR ?_ n _ _ _ _ _ _ _  h
    intro M26 v27  h
    refine j_iload (pc' := 233) hκ 0 rfl dX10_search_231 rfl ?_
    exact hR _ _ _ _ dX10_search_233 h
  · replace h := h.2 c
    refine j_ldc (pc' := 51) hκ (mc wm_8_19) dX10_search_49 rfl ?_
    exact hR _ _ _ _ dX10_search_51 h
theorem c_m_search {g : Gx} (hg : Dg g) {X M : ST} {p1 : Int32} {p2 : Int32} {p3 : Int32} {post : Int32 → ST → Prop} (h : wp_m_search M p1 p2 p3 post) (l : Launch) : Met l yX10_search wq_X10_search rm_m_search (va_Pc [.ref (g.2.1 11), .int p1, .int p2, .int p3] (PU g X M)) (va_Qi post (fun Y t => va_P g.1 vwCl (ww g X Y) t.heap) (wA g)) 0 0 (wA g) :=
  met_mi hg (by decide) rfl [.ref (g.2.1 11), .int p1, .int p2, .int p3] rfl (Nat.le_of_ble_eq_true rfl) (fun κ hκ hR => lb_m_search hκ hR h) l
theorem wm_24_5 : Cond.methodLink RX10 175 yX10_search ∈ wAll := inr_24 (List.mem_of_getElem? (i := 5) rfl)
theorem wm_24_6 : Cond.instanceMethod yX10_search ∈ wAll := inr_24 (List.mem_of_getElem? (i := 6) rfl)
theorem wm_24_7 : Cond.selects RX10 yX10_search yX10_search ∈ wAll := inr_24 (List.mem_of_getElem? (i := 7) rfl)
theorem wm_24_8 : Cond.code yX10_search cX10_search 10 (some .int) ∈ wAll := inr_24 (List.mem_of_getElem? (i := 8) rfl)
theorem hqV_X10_search : yX10_search.cls = RX10 ∧ yX10_search.cls ≠ "java/lang/invoke/MethodHandle" ∧ yX10_search.cls ≠ "java/lang/invoke/VarHandle" ∧ (parseMethodDescriptor yX10_search.desc).map (fun d => d.parameters.length) = some 3 := by decide +kernel
theorem wm_7_23 : Cond.fieldLink RX10 51 "LampRoundModel" "round" "[I" ∈ wAll := inr_7 (List.mem_of_getElem? (i := 23) rfl)
abbrev rm_m_least : Room := { frames := 4, cells := 0, slots := 0, locals := 102 }
def wp_m_least_39_s (K65 : ST → Int32 → Prop) (post : Int32 → ST → Prop) (rec : ST → Int32 → Int32 → Prop) (M : ST) (l1 : Int32) (l2 : Int32) : Prop :=
  ((m_told M) ≤ l2 → (K65 M l1)) ∧ (¬ (m_told M) ≤ l2 → (vp_in l2 12 ∧ (vp_in l2 12 ∧ (∀ M8 : ST, M8 = ms_round M (upd (m_round M) l2.toNatClampNeg (m_best M l2.toNatClampNeg)) → rec M8 l1 (l2 + 1)))))
def wp_m_least_39 (K65 : ST → Int32 → Prop) (post : Int32 → ST → Prop) : Nat → ST → Int32 → Int32 → Prop
  | 0 => fun _ _ _ => False
  | n + 1 => wp_m_least_39_s K65 post (wp_m_least_39 K65 post n)
set_option maxHeartbeats 4000000 in
set_option maxRecDepth 100000 in
theorem lb_m_least_39 {κ : Cx} {g : Gx} {X : ST} (hκ : CF κ g RX10 cX10_least wq_X10_least 3 rm_m_least) {post : Int32 → ST → Prop} (hR : RtmI κ g 3 cX10_least X post) {K65 : ST → Int32 → Prop} (hK65 : ∀ (M : ST) (l1 : Int32), K65 M l1 → Jw κ g 3 X M [(1, .int l1)] 65 []) : ∀ (n : Nat) (M : ST) (l1 : Int32) (l2 : Int32), wp_m_least_39 K65 post n M l1 l2 → Jw κ g 3 X M [(0, .ref (g.2.1 11)), (1, .int l1), (2, .int l2)] 39 [] := by
  intro n
  induction n with
  | zero =>
    intro M l1 l2  h
    exact h.elim
  | succ n ih =>
    intro M l1 l2  h
    have h : wp_m_least_39_s K65 post (wp_m_least_39 K65 post n) M l1 l2 := h
    unfold wp_m_least_39_s at h
    refine j_iload_n (pc' := 40) hκ 2 rfl rfl dX10_least_39 rfl ?_
    refine j_aload_n (pc' := 41) hκ 0 rfl rfl dX10_least_40 rfl ?_
    refine jg_11_15 (pc' := 44) hκ (mi inlX10) (fl_in hκ (mc wm_10_8)) dX10_least_41 rfl ?_
    refine j_icmp_ge (tgt := 65) (pc' := 47) hκ dX10_least_44 (by decide) rfl (fun c => ?_) (fun c => ?_)
    · replace h := h.1 c
      refine j_sub [1] rfl ?_
      exact hK65 _ _  h
    · replace h := h.2 c
      refine j_aload_n (pc' := 48) hκ 0 rfl rfl dX10_least_47 rfl ?_
      refine jg_11_16 (pc' := 51) hκ (mi inlX10) (fl_in hκ (mc wm_7_23)) dX10_least_48 rfl ?_
      refine j_iload_n (pc' := 52) hκ 2 rfl rfl dX10_least_51 rfl ?_
      refine j_aload_n (pc' := 53) hκ 0 rfl rfl dX10_least_52 rfl ?_
      refine jg_11_22 (pc' := 56) hκ (mi inlX10) (fl_in hκ (mc wm_8_4)) dX10_least_53 rfl ?_
      refine j_iload_n (pc' := 57) hκ 2 rfl rfl dX10_least_56 rfl ?_
      refine jm_iald (pc' := 58) hκ (ah_65 g) h.1 dX10_least_57 rfl ?_
      replace h := h.2
      refine jm_iast (pc' := 59) hκ (ah_60 g) h.1 dX10_least_58 rfl ?_
      replace h := h.2
      refine j_nmM (fun M8 eM8 => ?_)
      replace h := h M8 eM8
      refine j_iinc (pc' := 62) (v := l2 + 1) (lv' := [(2, .int (l2 + 1)), (0, .ref (g.2.1 11)), (1, .int l1)]) hκ 2 rfl rfl (Nat.le_of_ble_eq_true rfl) rfl dX10_least_59 rfl ?_
      refine j_goto (pc' := 39) hκ (by decide) dX10_least_62 ?_
      refine j_sub [1, 2, 0] rfl ?_
      exact ih _ _ _  h
def wp_m_least (M : ST) (post : Int32 → ST → Prop) : Prop :=
  wp_m_lit M (fun r2 M1 => (r2 ≤ 8 → (wp_m_search M1 0 0 0 (fun r4 M3 => (¬ r4 = 1000000000 → (wp_m_lit M3 (fun r6 M5 => ∀ M7 : ST, M7 = ms_told M5 r6 → ∃ n, wp_m_least_39 (fun M9 v10 => post v10 M9) post n M7 r4 0))) ∧ (r4 = 1000000000 → (post (-7) M3))))) ∧ (¬ r2 ≤ 8 → (post (-8) M1)))
set_option maxHeartbeats 4000000 in
set_option maxRecDepth 100000 in
theorem lb_m_least {κ : Cx} {g : Gx} {X : ST} (hκ : CF κ g RX10 cX10_least wq_X10_least 3 rm_m_least) {post : Int32 → ST → Prop} (hR : RtmI κ g 3 cX10_least X post) {M : ST} (h : wp_m_least M post) : Jw κ g 3 X M [(0, .ref (g.2.1 11))] 0 [] := by
  unfold wp_m_least at h
  refine j_aload_n (pc' := 1) hκ 0 rfl rfl dX10_least_0 rfl ?_
  refine jm_callVi (pc' := 4) hκ (c_m_lit (dg hκ) h) rfl rfl rfl (gV wm_21_16 wm_21_17 wm_21_18 wm_1_5 wm_21_19) hqV_X10_lit ⟨Nat.le_of_ble_eq_true rfl, Nat.le_of_ble_eq_true rfl⟩ (wg_11 g _ _) rfl rfl rfl (Nat.le_of_ble_eq_true rfl) dX10_least_1 rfl (fun r2 M1 h => ?_)
  refine j_bipush (pc' := 6) (v := 8) hκ (by decide) dX10_least_4 rfl ?_
  refine j_icmp_le (tgt := 12) (pc' := 9) hκ dX10_least_6 (by decide) rfl (fun c => ?_) (fun c => ?_)
  · replace h := h.1 c
    refine j_aload_n (pc' := 13) hκ 0 rfl rfl dX10_least_12 rfl ?_
    refine j_iconst (pc' := 14) (v := 0) hκ (by decide) dX10_least_13 rfl ?_
    refine j_iconst (pc' := 15) (v := 0) hκ (by decide) dX10_least_14 rfl ?_
    refine j_iconst (pc' := 16) (v := 0) hκ (by decide) dX10_least_15 rfl ?_
    refine jm_callVi (pc' := 19) hκ (c_m_search (dg hκ) h) rfl rfl rfl (gV wm_24_5 wm_24_6 wm_24_7 wm_1_5 wm_24_8) hqV_X10_search ⟨Nat.le_of_ble_eq_true rfl, Nat.le_of_ble_eq_true rfl⟩ (wg_11 g _ _) rfl rfl rfl (Nat.le_of_ble_eq_true rfl) dX10_least_16 rfl (fun r4 M3 h => ?_)
    refine j_istore_n (pc' := 20) (lv' := [(1, .int r4), (0, .ref (g.2.1 11))]) hκ (Nat.le_of_ble_eq_true rfl) rfl rfl dX10_least_19 rfl ?_
    refine j_iload_n (pc' := 21) hκ 0 rfl rfl dX10_least_20 rfl ?_
    refine j_ldc (pc' := 23) hκ (mc wm_8_19) dX10_least_21 rfl ?_
    refine j_icmp_ne (tgt := 29) (pc' := 26) hκ dX10_least_23 (by decide) rfl (fun c => ?_) (fun c => ?_)
    · replace h := h.1 c
      refine j_aload_n (pc' := 30) hκ 1 rfl rfl dX10_least_29 rfl ?_
      refine j_aload_n (pc' := 31) hκ 1 rfl rfl dX10_least_30 rfl ?_
      refine jm_callVi (pc' := 34) hκ (c_m_lit (dg hκ) h) rfl rfl rfl (gV wm_21_16 wm_21_17 wm_21_18 wm_1_5 wm_21_19) hqV_X10_lit ⟨Nat.le_of_ble_eq_true rfl, Nat.le_of_ble_eq_true rfl⟩ (wg_11 g _ _) rfl rfl rfl (Nat.le_of_ble_eq_true rfl) dX10_least_31 rfl (fun r6 M5 h => ?_)
      refine jp_11_15 (pc' := 37) hκ (mi inlX10) (fl_in hκ (mc wm_10_8)) dX10_least_34 rfl ?_
      refine j_nmM (fun M7 eM7 => ?_)
      replace h := h M7 eM7
      refine j_iconst (pc' := 38) (v := 0) hκ (by decide) dX10_least_37 rfl ?_
      refine j_istore_n (pc' := 39) (lv' := [(2, .int 0), (1, .int r4), (0, .ref (g.2.1 11))]) hκ (Nat.le_of_ble_eq_true rfl) rfl rfl dX10_least_38 rfl ?_
      obtain ⟨n, h⟩ := h
      refine j_sub [2, 1, 0] rfl ?_
      refine lb_m_least_39 hκ hR ?_ n _ _ _  h
      intro M9 v10  h
      refine j_iload_n (pc' := 66) hκ 0 rfl rfl dX10_least_65 rfl ?_
      exact hR _ _ _ _ dX10_least_66 h
    · replace h := h.2 c
      refine j_bipush (pc' := 28) (v := (-7)) hκ (by decide) dX10_least_26 rfl ?_
      exact hR _ _ _ _ dX10_least_28 h
  · replace h := h.2 c
    refine j_bipush (pc' := 11) (v := (-8)) hκ (by decide) dX10_least_9 rfl ?_
    exact hR _ _ _ _ dX10_least_11 h
theorem c_m_least {g : Gx} (hg : Dg g) {X M : ST} {post : Int32 → ST → Prop} (h : wp_m_least M post) (l : Launch) : Met l yX10_least wq_X10_least rm_m_least (va_Pc [.ref (g.2.1 11)] (PU g X M)) (va_Qi post (fun Y t => va_P g.1 vwCl (ww g X Y) t.heap) (wA g)) 0 0 (wA g) :=
  met_mi hg (by decide) rfl [.ref (g.2.1 11)] rfl (Nat.le_of_ble_eq_true rfl) (fun κ hκ hR => lb_m_least hκ hR h) l
abbrev rm_m_isWhole : Room := { frames := 1, cells := 0, slots := 0, locals := 22 }
def wp_m_isWhole (M : ST) (post : Int32 → ST → Prop) : Prop :=
  wp_m_lit M (fun r2 M1 => (¬ (m_told M) = r2 → (post 0 M1)) ∧ ((m_told M) = r2 → (((m_told M1) < 3 → (post 0 M1)) ∧ (¬ (m_told M1) < 3 → (post 1 M1)))))
set_option maxHeartbeats 4000000 in
set_option maxRecDepth 100000 in
theorem lb_m_isWhole {κ : Cx} {g : Gx} {X : ST} (hκ : CF κ g RX10 cX10_isWhole wq_X10_isWhole 1 rm_m_isWhole) {post : Int32 → ST → Prop} (hR : RtmZ κ g 1 cX10_isWhole X post) {M : ST} (h : wp_m_isWhole M post) : Jw κ g 1 X M [(0, .ref (g.2.1 11))] 0 [] := by
  unfold wp_m_isWhole at h
  refine j_aload_n (pc' := 1) hκ 0 rfl rfl dX10_isWhole_0 rfl ?_
  refine jg_11_15 (pc' := 4) hκ (mi inlX10) (fl_in hκ (mc wm_10_8)) dX10_isWhole_1 rfl ?_
  refine j_aload_n (pc' := 5) hκ 0 rfl rfl dX10_isWhole_4 rfl ?_
  refine jm_callVi (pc' := 8) hκ (c_m_lit (dg hκ) h) rfl rfl rfl (gV wm_21_16 wm_21_17 wm_21_18 wm_1_5 wm_21_19) hqV_X10_lit ⟨Nat.le_of_ble_eq_true rfl, Nat.le_of_ble_eq_true rfl⟩ (wg_11 g _ _) rfl rfl rfl (Nat.le_of_ble_eq_true rfl) dX10_isWhole_5 rfl (fun r2 M1 h => ?_)
  refine j_icmp_ne (tgt := 23) (pc' := 11) hκ dX10_isWhole_8 (by decide) rfl (fun c => ?_) (fun c => ?_)
  · replace h := h.1 c
    refine j_iconst (pc' := 24) (v := 0) hκ (by decide) dX10_isWhole_23 rfl ?_
    exact hR _ _ _ _ dX10_isWhole_24 (Or.inl rfl) h
  · replace h := h.2 c
    refine j_aload_n (pc' := 12) hκ 0 rfl rfl dX10_isWhole_11 rfl ?_
    refine jg_11_15 (pc' := 15) hκ (mi inlX10) (fl_in hκ (mc wm_10_8)) dX10_isWhole_12 rfl ?_
    refine j_iconst (pc' := 16) (v := 3) hκ (by decide) dX10_isWhole_15 rfl ?_
    refine j_icmp_lt (tgt := 23) (pc' := 19) hκ dX10_isWhole_16 (by decide) rfl (fun c => ?_) (fun c => ?_)
    · replace h := h.1 c
      refine j_iconst (pc' := 24) (v := 0) hκ (by decide) dX10_isWhole_23 rfl ?_
      exact hR _ _ _ _ dX10_isWhole_24 (Or.inl rfl) h
    · replace h := h.2 c
      refine j_iconst (pc' := 20) (v := 1) hκ (by decide) dX10_isWhole_19 rfl ?_
      refine j_goto (pc' := 24) hκ (by decide) dX10_isWhole_20 ?_
      exact hR _ _ _ _ dX10_isWhole_24 (Or.inr rfl) h
theorem c_m_isWhole {g : Gx} (hg : Dg g) {X M : ST} {post : Int32 → ST → Prop} (h : wp_m_isWhole M post) (l : Launch) : Met l yX10_isWhole wq_X10_isWhole rm_m_isWhole (va_Pc [.ref (g.2.1 11)] (PU g X M)) (va_Qi post (fun Y t => va_P g.1 vwCl (ww g X Y) t.heap) (wA g)) 0 0 (wA g) :=
  met_mz hg (by decide) rfl [.ref (g.2.1 11)] rfl (Nat.le_of_ble_eq_true rfl) (fun κ hκ hR => lb_m_isWhole hκ hR h) l
theorem wm_26_12 : Cond.methodLink RX10 179 yX10_isWhole ∈ wAll := inr_26 (List.mem_of_getElem? (i := 12) rfl)
theorem wm_26_13 : Cond.instanceMethod yX10_isWhole ∈ wAll := inr_26 (List.mem_of_getElem? (i := 13) rfl)
theorem wm_26_14 : Cond.selects RX10 yX10_isWhole yX10_isWhole ∈ wAll := inr_26 (List.mem_of_getElem? (i := 14) rfl)
theorem wm_26_15 : Cond.code yX10_isWhole cX10_isWhole 1 (some .boolean) ∈ wAll := inr_26 (List.mem_of_getElem? (i := 15) rfl)
theorem hqV_X10_isWhole : yX10_isWhole.cls = RX10 ∧ yX10_isWhole.cls ≠ "java/lang/invoke/MethodHandle" ∧ yX10_isWhole.cls ≠ "java/lang/invoke/VarHandle" ∧ (parseMethodDescriptor yX10_isWhole.desc).map (fun d => d.parameters.length) = some 0 := by decide +kernel
abbrev rm_m_write : Room := { frames := 0, cells := 0, slots := 0, locals := 0 }
def wp_m_write_4_s (K39 : ST → Int32 → Prop) (post : ST → Prop) (rec : ST → Int32 → Int32 → Prop) (M : ST) (l1 : Int32) (l2 : Int32) : Prop :=
  ((m_told M) ≤ l2 → (K39 M l1)) ∧ (¬ (m_told M) ≤ l2 → (vp_in l2 12 ∧ (vp_in l1 12 ∧ (((m_round M l1.toNatClampNeg) ≤ (m_round M l2.toNatClampNeg) → (rec M l1 (l2 + 1))) ∧ (¬ (m_round M l1.toNatClampNeg) ≤ (m_round M l2.toNatClampNeg) → (rec M l2 (l2 + 1)))))))
def wp_m_write_4 (K39 : ST → Int32 → Prop) (post : ST → Prop) : Nat → ST → Int32 → Int32 → Prop
  | 0 => fun _ _ _ => False
  | n + 1 => wp_m_write_4_s K39 post (wp_m_write_4 K39 post n)
set_option maxHeartbeats 4000000 in
set_option maxRecDepth 100000 in
theorem lb_m_write_4 {κ : Cx} {g : Gx} {X : ST} (hκ : CF κ g RX10 cX10_write wq_X10_write 4 rm_m_write) {post : ST → Prop} (hR : RtmV κ g 4 cX10_write X post) {K39 : ST → Int32 → Prop} (hK39 : ∀ (M : ST) (l1 : Int32), K39 M l1 → Jw κ g 4 X M [(0, .ref (g.2.1 11)), (1, .int l1)] 39 []) : ∀ (n : Nat) (M : ST) (l1 : Int32) (l2 : Int32), wp_m_write_4 K39 post n M l1 l2 → Jw κ g 4 X M [(0, .ref (g.2.1 11)), (1, .int l1), (2, .int l2)] 4 [] := by
  intro n
  induction n with
  | zero =>
    intro M l1 l2  h
    exact h.elim
  | succ n ih =>
    intro M l1 l2  h
    have h : wp_m_write_4_s K39 post (wp_m_write_4 K39 post n) M l1 l2 := h
    unfold wp_m_write_4_s at h
    refine j_iload_n (pc' := 5) hκ 2 rfl rfl dX10_write_4 rfl ?_
    refine j_aload_n (pc' := 6) hκ 0 rfl rfl dX10_write_5 rfl ?_
    refine jg_11_15 (pc' := 9) hκ (mi inlX10) (fl_in hκ (mc wm_10_8)) dX10_write_6 rfl ?_
    refine j_icmp_ge (tgt := 39) (pc' := 12) hκ dX10_write_9 (by decide) rfl (fun c => ?_) (fun c => ?_)
    · replace h := h.1 c
      refine j_sub [0, 1] rfl ?_
      exact hK39 _ _  h
    · replace h := h.2 c
      refine j_aload_n (pc' := 13) hκ 0 rfl rfl dX10_write_12 rfl ?_
      refine jg_11_16 (pc' := 16) hκ (mi inlX10) (fl_in hκ (mc wm_7_23)) dX10_write_13 rfl ?_
      refine j_iload_n (pc' := 17) hκ 2 rfl rfl dX10_write_16 rfl ?_
      refine jm_iald (pc' := 18) hκ (ah_60 g) h.1 dX10_write_17 rfl ?_
      replace h := h.2
      refine j_aload_n (pc' := 19) hκ 0 rfl rfl dX10_write_18 rfl ?_
      refine jg_11_16 (pc' := 22) hκ (mi inlX10) (fl_in hκ (mc wm_7_23)) dX10_write_19 rfl ?_
      refine j_iload_n (pc' := 23) hκ 1 rfl rfl dX10_write_22 rfl ?_
      refine jm_iald (pc' := 24) hκ (ah_60 g) h.1 dX10_write_23 rfl ?_
      replace h := h.2
      refine j_icmp_ge (tgt := 31) (pc' := 27) hκ dX10_write_24 (by decide) rfl (fun c => ?_) (fun c => ?_)
      · replace h := h.1 c
        refine j_iload_n (pc' := 32) hκ 1 rfl rfl dX10_write_31 rfl ?_
        refine j_istore_n (pc' := 33) (lv' := [(1, .int l1), (0, .ref (g.2.1 11)), (2, .int l2)]) hκ (Nat.le_of_ble_eq_true rfl) rfl rfl dX10_write_32 rfl ?_
        refine j_iinc (pc' := 36) (v := l2 + 1) (lv' := [(2, .int (l2 + 1)), (1, .int l1), (0, .ref (g.2.1 11))]) hκ 2 rfl rfl (Nat.le_of_ble_eq_true rfl) rfl dX10_write_33 rfl ?_
        refine j_goto (pc' := 4) hκ (by decide) dX10_write_36 ?_
        refine j_sub [2, 1, 0] rfl ?_
        exact ih _ _ _  h
      · replace h := h.2 c
        refine j_iload_n (pc' := 28) hκ 2 rfl rfl dX10_write_27 rfl ?_
        refine j_goto (pc' := 32) hκ (by decide) dX10_write_28 ?_
        refine j_istore_n (pc' := 33) (lv' := [(1, .int l2), (0, .ref (g.2.1 11)), (2, .int l2)]) hκ (Nat.le_of_ble_eq_true rfl) rfl rfl dX10_write_32 rfl ?_
        refine j_iinc (pc' := 36) (v := l2 + 1) (lv' := [(2, .int (l2 + 1)), (1, .int l2), (0, .ref (g.2.1 11))]) hκ 2 rfl rfl (Nat.le_of_ble_eq_true rfl) rfl dX10_write_33 rfl ?_
        refine j_goto (pc' := 4) hκ (by decide) dX10_write_36 ?_
        refine j_sub [2, 1, 0] rfl ?_
        exact ih _ _ _  h
def wp_m_write_81_s (K129 : ST → Prop) (post : ST → Prop) (rec : ST → Int32 → Int32 → Int32 → Prop) (M : ST) (l1 : Int32) (l2 : Int32) (l3 : Int32) : Prop :=
  ((m_told M) ≤ l3 → (K129 M)) ∧ (¬ (m_told M) ≤ l3 → ((l2 = 0 → (¬ (m_told M) = 0 ∧ (vp_in (((l1 + (m_told M)) - l3) - ((l1 + (m_told M)) - l3) / (m_told M) * (m_told M)) 12 ∧ (vp_in l3 12 ∧ (∀ M3 : ST, M3 = ms_written M (upd (m_written M) l3.toNatClampNeg (m_round M (((l1 + (m_told M)) - l3) - ((l1 + (m_told M)) - l3) / (m_told M) * (m_told M)).toNatClampNeg)) → rec M3 l1 l2 (l3 + 1)))))) ∧ (¬ l2 = 0 → (¬ (m_told M) = 0 ∧ (vp_in ((l1 + l3) - (l1 + l3) / (m_told M) * (m_told M)) 12 ∧ (vp_in l3 12 ∧ (∀ M4 : ST, M4 = ms_written M (upd (m_written M) l3.toNatClampNeg (m_round M ((l1 + l3) - (l1 + l3) / (m_told M) * (m_told M)).toNatClampNeg)) → rec M4 l1 l2 (l3 + 1))))))))
def wp_m_write_81 (K129 : ST → Prop) (post : ST → Prop) : Nat → ST → Int32 → Int32 → Int32 → Prop
  | 0 => fun _ _ _ _ => False
  | n + 1 => wp_m_write_81_s K129 post (wp_m_write_81 K129 post n)
set_option maxHeartbeats 4000000 in
set_option maxRecDepth 100000 in
theorem lb_m_write_81 {κ : Cx} {g : Gx} {X : ST} (hκ : CF κ g RX10 cX10_write wq_X10_write 4 rm_m_write) {post : ST → Prop} (hR : RtmV κ g 4 cX10_write X post) {K129 : ST → Prop} (hK129 : ∀ (M : ST), K129 M → Jw κ g 4 X M [] 129 []) : ∀ (n : Nat) (M : ST) (l1 : Int32) (l2 : Int32) (l3 : Int32), wp_m_write_81 K129 post n M l1 l2 l3 → Jw κ g 4 X M [(0, .ref (g.2.1 11)), (1, .int l1), (2, .int l2), (3, .int l3)] 81 [] := by
  intro n
  induction n with
  | zero =>
    intro M l1 l2 l3  h
    exact h.elim
  | succ n ih =>
    intro M l1 l2 l3  h
    have h : wp_m_write_81_s K129 post (wp_m_write_81 K129 post n) M l1 l2 l3 := h
    unfold wp_m_write_81_s at h
    refine j_iload_n (pc' := 82) hκ 3 rfl rfl dX10_write_81 rfl ?_
    refine j_aload_n (pc' := 83) hκ 0 rfl rfl dX10_write_82 rfl ?_
    refine jg_11_15 (pc' := 86) hκ (mi inlX10) (fl_in hκ (mc wm_10_8)) dX10_write_83 rfl ?_
    refine j_icmp_ge (tgt := 129) (pc' := 89) hκ dX10_write_86 (by decide) rfl (fun c => ?_) (fun c => ?_)
    · replace h := h.1 c
      refine j_sub [] rfl ?_
      exact hK129 _  h
    · replace h := h.2 c
      refine j_aload_n (pc' := 90) hκ 0 rfl rfl dX10_write_89 rfl ?_
      refine jg_11_23 (pc' := 93) hκ (mi inlX10) (fl_in hκ (mc wm_8_5)) dX10_write_90 rfl ?_
      refine j_iload_n (pc' := 94) hκ 3 rfl rfl dX10_write_93 rfl ?_
      refine j_aload_n (pc' := 95) hκ 0 rfl rfl dX10_write_94 rfl ?_
      refine jg_11_16 (pc' := 98) hκ (mi inlX10) (fl_in hκ (mc wm_7_23)) dX10_write_95 rfl ?_
      refine j_iload_n (pc' := 99) hκ 2 rfl rfl dX10_write_98 rfl ?_
      refine j_if_eq (tgt := 108) (pc' := 102) hκ dX10_write_99 (by decide) rfl (fun c => ?_) (fun c => ?_)
      · replace h := h.1 c
        refine j_iload_n (pc' := 109) hκ 1 rfl rfl dX10_write_108 rfl ?_
        refine j_aload_n (pc' := 110) hκ 0 rfl rfl dX10_write_109 rfl ?_
        refine jg_11_15 (pc' := 113) hκ (mi inlX10) (fl_in hκ (mc wm_10_8)) dX10_write_110 rfl ?_
        refine j_iadd (pc' := 114) hκ dX10_write_113 rfl ?_
        refine j_iload_n (pc' := 115) hκ 3 rfl rfl dX10_write_114 rfl ?_
        refine j_isub (pc' := 116) hκ dX10_write_115 rfl ?_
        refine j_aload_n (pc' := 117) hκ 0 rfl rfl dX10_write_116 rfl ?_
        refine jg_11_15 (pc' := 120) hκ (mi inlX10) (fl_in hκ (mc wm_10_8)) dX10_write_117 rfl ?_
        refine j_irem (pc' := 121) hκ h.1 dX10_write_120 rfl ?_
        replace h := h.2
        refine jm_iald (pc' := 122) hκ (ah_60 g) h.1 dX10_write_121 rfl ?_
        replace h := h.2
        refine jm_iast (pc' := 123) hκ (ah_66 g) h.1 dX10_write_122 rfl ?_
        replace h := h.2
        refine j_nmM (fun M3 eM3 => ?_)
        replace h := h M3 eM3
        refine j_iinc (pc' := 126) (v := l3 + 1) (lv' := [(3, .int (l3 + 1)), (0, .ref (g.2.1 11)), (1, .int l1), (2, .int l2)]) hκ 3 rfl rfl (Nat.le_of_ble_eq_true rfl) rfl dX10_write_123 rfl ?_
        refine j_goto (pc' := 81) hκ (by decide) dX10_write_126 ?_
        refine j_sub [1, 2, 3, 0] rfl ?_
        exact ih _ _ _ _  h
      · replace h := h.2 c
        refine j_iload_n (pc' := 103) hκ 1 rfl rfl dX10_write_102 rfl ?_
        refine j_iload_n (pc' := 104) hκ 3 rfl rfl dX10_write_103 rfl ?_
        refine j_iadd (pc' := 105) hκ dX10_write_104 rfl ?_
        refine j_goto (pc' := 116) hκ (by decide) dX10_write_105 ?_
        refine j_aload_n (pc' := 117) hκ 0 rfl rfl dX10_write_116 rfl ?_
        refine jg_11_15 (pc' := 120) hκ (mi inlX10) (fl_in hκ (mc wm_10_8)) dX10_write_117 rfl ?_
        refine j_irem (pc' := 121) hκ h.1 dX10_write_120 rfl ?_
        replace h := h.2
        refine jm_iald (pc' := 122) hκ (ah_60 g) h.1 dX10_write_121 rfl ?_
        replace h := h.2
        refine jm_iast (pc' := 123) hκ (ah_66 g) h.1 dX10_write_122 rfl ?_
        replace h := h.2
        refine j_nmM (fun M4 eM4 => ?_)
        replace h := h M4 eM4
        refine j_iinc (pc' := 126) (v := l3 + 1) (lv' := [(3, .int (l3 + 1)), (0, .ref (g.2.1 11)), (1, .int l1), (2, .int l2)]) hκ 3 rfl rfl (Nat.le_of_ble_eq_true rfl) rfl dX10_write_123 rfl ?_
        refine j_goto (pc' := 81) hκ (by decide) dX10_write_126 ?_
        refine j_sub [1, 2, 3, 0] rfl ?_
        exact ih _ _ _ _  h
def wp_m_write (M : ST) (post : ST → Prop) : Prop :=
  ∃ n, wp_m_write_4 (fun M1 v2 => ¬ (m_told M1) = 0 ∧ (vp_in ((v2 + 1) - (v2 + 1) / (m_told M1) * (m_told M1)) 12 ∧ (¬ (m_told M1) = 0 ∧ (vp_in (((v2 + (m_told M1)) - 1) - ((v2 + (m_told M1)) - 1) / (m_told M1) * (m_told M1)) 12 ∧ (((m_round M1 (((v2 + (m_told M1)) - 1) - ((v2 + (m_told M1)) - 1) / (m_told M1) * (m_told M1)).toNatClampNeg) ≤ (m_round M1 ((v2 + 1) - (v2 + 1) / (m_told M1) * (m_told M1)).toNatClampNeg) → (∃ n, wp_m_write_81 (fun M5 => post M5) post n M1 v2 0 0)) ∧ (¬ (m_round M1 (((v2 + (m_told M1)) - 1) - ((v2 + (m_told M1)) - 1) / (m_told M1) * (m_told M1)).toNatClampNeg) ≤ (m_round M1 ((v2 + 1) - (v2 + 1) / (m_told M1) * (m_told M1)).toNatClampNeg) → (∃ n, wp_m_write_81 (fun M6 => post M6) post n M1 v2 1 0))))))) post n M 0 1
set_option maxHeartbeats 4000000 in
set_option maxRecDepth 100000 in
theorem lb_m_write {κ : Cx} {g : Gx} {X : ST} (hκ : CF κ g RX10 cX10_write wq_X10_write 4 rm_m_write) {post : ST → Prop} (hR : RtmV κ g 4 cX10_write X post) {M : ST} (h : wp_m_write M post) : Jw κ g 4 X M [(0, .ref (g.2.1 11))] 0 [] := by
  unfold wp_m_write at h
  refine j_iconst (pc' := 1) (v := 0) hκ (by decide) dX10_write_0 rfl ?_
  refine j_istore_n (pc' := 2) (lv' := [(1, .int 0), (0, .ref (g.2.1 11))]) hκ (Nat.le_of_ble_eq_true rfl) rfl rfl dX10_write_1 rfl ?_
  refine j_iconst (pc' := 3) (v := 1) hκ (by decide) dX10_write_2 rfl ?_
  refine j_istore_n (pc' := 4) (lv' := [(2, .int 1), (1, .int 0), (0, .ref (g.2.1 11))]) hκ (Nat.le_of_ble_eq_true rfl) rfl rfl dX10_write_3 rfl ?_
  obtain ⟨n, h⟩ := h
  refine j_sub [2, 1, 0] rfl ?_
  refine lb_m_write_4 hκ hR ?_ n _ _ _  h
  intro M1 v2  h
  refine j_aload_n (pc' := 40) hκ 0 rfl rfl dX10_write_39 rfl ?_
  refine jg_11_16 (pc' := 43) hκ (mi inlX10) (fl_in hκ (mc wm_7_23)) dX10_write_40 rfl ?_
  refine j_iload_n (pc' := 44) hκ 1 rfl rfl dX10_write_43 rfl ?_
  refine j_iconst (pc' := 45) (v := 1) hκ (by decide) dX10_write_44 rfl ?_
  refine j_iadd (pc' := 46) hκ dX10_write_45 rfl ?_
  refine j_aload_n (pc' := 47) hκ 0 rfl rfl dX10_write_46 rfl ?_
  refine jg_11_15 (pc' := 50) hκ (mi inlX10) (fl_in hκ (mc wm_10_8)) dX10_write_47 rfl ?_
  refine j_irem (pc' := 51) hκ h.1 dX10_write_50 rfl ?_
  replace h := h.2
  refine jm_iald (pc' := 52) hκ (ah_60 g) h.1 dX10_write_51 rfl ?_
  replace h := h.2
  refine j_aload_n (pc' := 53) hκ 0 rfl rfl dX10_write_52 rfl ?_
  refine jg_11_16 (pc' := 56) hκ (mi inlX10) (fl_in hκ (mc wm_7_23)) dX10_write_53 rfl ?_
  refine j_iload_n (pc' := 57) hκ 1 rfl rfl dX10_write_56 rfl ?_
  refine j_aload_n (pc' := 58) hκ 0 rfl rfl dX10_write_57 rfl ?_
  refine jg_11_15 (pc' := 61) hκ (mi inlX10) (fl_in hκ (mc wm_10_8)) dX10_write_58 rfl ?_
  refine j_iadd (pc' := 62) hκ dX10_write_61 rfl ?_
  refine j_iconst (pc' := 63) (v := 1) hκ (by decide) dX10_write_62 rfl ?_
  refine j_isub (pc' := 64) hκ dX10_write_63 rfl ?_
  refine j_aload_n (pc' := 65) hκ 0 rfl rfl dX10_write_64 rfl ?_
  refine jg_11_15 (pc' := 68) hκ (mi inlX10) (fl_in hκ (mc wm_10_8)) dX10_write_65 rfl ?_
  refine j_irem (pc' := 69) hκ h.1 dX10_write_68 rfl ?_
  replace h := h.2
  refine jm_iald (pc' := 70) hκ (ah_60 g) h.1 dX10_write_69 rfl ?_
  replace h := h.2
  refine j_icmp_ge (tgt := 77) (pc' := 73) hκ dX10_write_70 (by decide) rfl (fun c => ?_) (fun c => ?_)
  · replace h := h.1 c
    refine j_iconst (pc' := 78) (v := 0) hκ (by decide) dX10_write_77 rfl ?_
    refine j_istore_n (pc' := 79) (lv' := [(2, .int 0), (0, .ref (g.2.1 11)), (1, .int v2)]) hκ (Nat.le_of_ble_eq_true rfl) rfl rfl dX10_write_78 rfl ?_
    refine j_iconst (pc' := 80) (v := 0) hκ (by decide) dX10_write_79 rfl ?_
    refine j_istore_n (pc' := 81) (lv' := [(3, .int 0), (2, .int 0), (0, .ref (g.2.1 11)), (1, .int v2)]) hκ (Nat.le_of_ble_eq_true rfl) rfl rfl dX10_write_80 rfl ?_
    obtain ⟨n, h⟩ := h
    refine j_sub [2, 3, 1, 0] rfl ?_
    refine lb_m_write_81 hκ hR ?_ n _ _ _ _  h
    intro M5  h
    exact hR _ _ _ dX10_write_129 h
  · replace h := h.2 c
    refine j_iconst (pc' := 74) (v := 1) hκ (by decide) dX10_write_73 rfl ?_
    refine j_goto (pc' := 78) hκ (by decide) dX10_write_74 ?_
    refine j_istore_n (pc' := 79) (lv' := [(2, .int 1), (0, .ref (g.2.1 11)), (1, .int v2)]) hκ (Nat.le_of_ble_eq_true rfl) rfl rfl dX10_write_78 rfl ?_
    refine j_iconst (pc' := 80) (v := 0) hκ (by decide) dX10_write_79 rfl ?_
    refine j_istore_n (pc' := 81) (lv' := [(3, .int 0), (2, .int 1), (0, .ref (g.2.1 11)), (1, .int v2)]) hκ (Nat.le_of_ble_eq_true rfl) rfl rfl dX10_write_80 rfl ?_
    obtain ⟨n, h⟩ := h
    refine j_sub [2, 3, 1, 0] rfl ?_
    refine lb_m_write_81 hκ hR ?_ n _ _ _ _  h
    intro M6  h
    exact hR _ _ _ dX10_write_129 h
theorem c_m_write {g : Gx} (hg : Dg g) {X M : ST} {post : ST → Prop} (h : wp_m_write M post) (l : Launch) : Met l yX10_write wq_X10_write rm_m_write (va_Pc [.ref (g.2.1 11)] (PU g X M)) (va_Qv post (fun Y t => va_P g.1 vwCl (ww g X Y) t.heap) (wA g)) 0 0 (wA g) :=
  met_mv hg (by decide) rfl [.ref (g.2.1 11)] rfl (Nat.le_of_ble_eq_true rfl) (fun κ hκ hR => lb_m_write hκ hR h) l
theorem wm_26_16 : Cond.methodLink RX10 183 yX10_write ∈ wAll := inr_26 (List.mem_of_getElem? (i := 16) rfl)
theorem wm_26_17 : Cond.instanceMethod yX10_write ∈ wAll := inr_26 (List.mem_of_getElem? (i := 17) rfl)
theorem wm_26_18 : Cond.selects RX10 yX10_write yX10_write ∈ wAll := inr_26 (List.mem_of_getElem? (i := 18) rfl)
theorem wm_26_19 : Cond.code yX10_write cX10_write 4 none ∈ wAll := inr_26 (List.mem_of_getElem? (i := 19) rfl)
theorem hqV_X10_write : yX10_write.cls = RX10 ∧ yX10_write.cls ≠ "java/lang/invoke/MethodHandle" ∧ yX10_write.cls ≠ "java/lang/invoke/VarHandle" ∧ (parseMethodDescriptor yX10_write.desc).map (fun d => d.parameters.length) = some 0 := by decide +kernel
abbrev rm_m_second : Room := { frames := 4, cells := 0, slots := 0, locals := 102 }
def wp_m_second (M : ST) (post : Int32 → ST → Prop) : Prop :=
  wp_m_isWhole M (fun r2 M1 => (¬ r2 = 0 → (wp_m_lit M1 (fun r4 M3 => (r4 ≤ 8 → (wp_m_write M3 (fun M5 => wp_m_search M5 1 0 0 (fun r8 M7 => (¬ r8 = 1000000000 → (post r8 M7)) ∧ (r8 = 1000000000 → (post (-7) M7)))))) ∧ (¬ r4 ≤ 8 → (post (-8) M3))))) ∧ (r2 = 0 → (post (-4) M1)))
set_option maxHeartbeats 4000000 in
set_option maxRecDepth 100000 in
theorem lb_m_second {κ : Cx} {g : Gx} {X : ST} (hκ : CF κ g RX10 cX10_second wq_X10_second 2 rm_m_second) {post : Int32 → ST → Prop} (hR : RtmI κ g 2 cX10_second X post) {M : ST} (h : wp_m_second M post) : Jw κ g 2 X M [(0, .ref (g.2.1 11))] 0 [] := by
  unfold wp_m_second at h
  refine j_aload_n (pc' := 1) hκ 0 rfl rfl dX10_second_0 rfl ?_
  refine jm_callVi (pc' := 4) hκ (c_m_isWhole (dg hκ) h) rfl rfl rfl (gV wm_26_12 wm_26_13 wm_26_14 wm_1_5 wm_26_15) hqV_X10_isWhole ⟨Nat.le_of_ble_eq_true rfl, Nat.le_of_ble_eq_true rfl⟩ (wg_11 g _ _) rfl rfl rfl (Nat.le_of_ble_eq_true rfl) dX10_second_1 rfl (fun r2 M1 h => ?_)
  refine j_if_ne (tgt := 10) (pc' := 7) hκ dX10_second_4 (by decide) rfl (fun c => ?_) (fun c => ?_)
  · replace h := h.1 c
    refine j_aload_n (pc' := 11) hκ 0 rfl rfl dX10_second_10 rfl ?_
    refine jm_callVi (pc' := 14) hκ (c_m_lit (dg hκ) h) rfl rfl rfl (gV wm_21_16 wm_21_17 wm_21_18 wm_1_5 wm_21_19) hqV_X10_lit ⟨Nat.le_of_ble_eq_true rfl, Nat.le_of_ble_eq_true rfl⟩ (wg_11 g _ _) rfl rfl rfl (Nat.le_of_ble_eq_true rfl) dX10_second_11 rfl (fun r4 M3 h => ?_)
    refine j_bipush (pc' := 16) (v := 8) hκ (by decide) dX10_second_14 rfl ?_
    refine j_icmp_le (tgt := 22) (pc' := 19) hκ dX10_second_16 (by decide) rfl (fun c => ?_) (fun c => ?_)
    · replace h := h.1 c
      refine j_aload_n (pc' := 23) hκ 0 rfl rfl dX10_second_22 rfl ?_
      refine jm_callVv (pc' := 26) hκ (c_m_write (dg hκ) h) rfl rfl rfl (gV wm_26_16 wm_26_17 wm_26_18 wm_1_5 wm_26_19) hqV_X10_write ⟨Nat.le_of_ble_eq_true rfl, Nat.le_of_ble_eq_true rfl⟩ (wg_11 g _ _) rfl rfl rfl (Nat.le_of_ble_eq_true rfl) dX10_second_23 rfl (fun M5 h => ?_)
      refine j_aload_n (pc' := 27) hκ 0 rfl rfl dX10_second_26 rfl ?_
      refine j_iconst (pc' := 28) (v := 1) hκ (by decide) dX10_second_27 rfl ?_
      refine j_iconst (pc' := 29) (v := 0) hκ (by decide) dX10_second_28 rfl ?_
      refine j_iconst (pc' := 30) (v := 0) hκ (by decide) dX10_second_29 rfl ?_
      refine jm_callVi (pc' := 33) hκ (c_m_search (dg hκ) h) rfl rfl rfl (gV wm_24_5 wm_24_6 wm_24_7 wm_1_5 wm_24_8) hqV_X10_search ⟨Nat.le_of_ble_eq_true rfl, Nat.le_of_ble_eq_true rfl⟩ (wg_11 g _ _) rfl rfl rfl (Nat.le_of_ble_eq_true rfl) dX10_second_30 rfl (fun r8 M7 h => ?_)
      refine j_istore_n (pc' := 34) (lv' := [(1, .int r8), (0, .ref (g.2.1 11))]) hκ (Nat.le_of_ble_eq_true rfl) rfl rfl dX10_second_33 rfl ?_
      refine j_iload_n (pc' := 35) hκ 0 rfl rfl dX10_second_34 rfl ?_
      refine j_ldc (pc' := 37) hκ (mc wm_8_19) dX10_second_35 rfl ?_
      refine j_icmp_ne (tgt := 45) (pc' := 40) hκ dX10_second_37 (by decide) rfl (fun c => ?_) (fun c => ?_)
      · replace h := h.1 c
        refine j_iload_n (pc' := 46) hκ 0 rfl rfl dX10_second_45 rfl ?_
        exact hR _ _ _ _ dX10_second_46 h
      · replace h := h.2 c
        refine j_bipush (pc' := 42) (v := (-7)) hκ (by decide) dX10_second_40 rfl ?_
        refine j_goto (pc' := 46) hκ (by decide) dX10_second_42 ?_
        exact hR _ _ _ _ dX10_second_46 h
    · replace h := h.2 c
      refine j_bipush (pc' := 21) (v := (-8)) hκ (by decide) dX10_second_19 rfl ?_
      exact hR _ _ _ _ dX10_second_21 h
  · replace h := h.2 c
    refine j_bipush (pc' := 9) (v := (-4)) hκ (by decide) dX10_second_7 rfl ?_
    exact hR _ _ _ _ dX10_second_9 h
theorem c_m_second {g : Gx} (hg : Dg g) {X M : ST} {post : Int32 → ST → Prop} (h : wp_m_second M post) (l : Launch) : Met l yX10_second wq_X10_second rm_m_second (va_Pc [.ref (g.2.1 11)] (PU g X M)) (va_Qi post (fun Y t => va_P g.1 vwCl (ww g X Y) t.heap) (wA g)) 0 0 (wA g) :=
  met_mi hg (by decide) rfl [.ref (g.2.1 11)] rfl (Nat.le_of_ble_eq_true rfl) (fun κ hκ hR => lb_m_second hκ hR h) l
abbrev rm_m_isLit : Room := { frames := 1, cells := 0, slots := 0, locals := 21 }
def wp_m_isLit (M : ST) (p1 : Int32) (post : Int32 → ST → Prop) : Prop :=
  wp_m_isLamp M p1 (fun r2 M1 => (r2 = 0 → (post 0 M1)) ∧ (¬ r2 = 0 → (vp_in p1 12 ∧ ((¬ (m_isOut M1 p1.toNatClampNeg) = 0 → (post 0 M1)) ∧ ((m_isOut M1 p1.toNatClampNeg) = 0 → (post 1 M1))))))
set_option maxHeartbeats 4000000 in
set_option maxRecDepth 100000 in
theorem lb_m_isLit {κ : Cx} {g : Gx} {X : ST} (hκ : CF κ g RX10 cX10_isLit wq_X10_isLit 2 rm_m_isLit) {post : Int32 → ST → Prop} (hR : RtmZ κ g 2 cX10_isLit X post) {M : ST} {p1 : Int32} (h : wp_m_isLit M p1 post) : Jw κ g 2 X M [(0, .ref (g.2.1 11)), (1, .int p1)] 0 [] := by
  unfold wp_m_isLit at h
  refine j_aload_n (pc' := 1) hκ 0 rfl rfl dX10_isLit_0 rfl ?_
  refine j_iload_n (pc' := 2) hκ 1 rfl rfl dX10_isLit_1 rfl ?_
  refine jm_callVi (pc' := 5) hκ (c_m_isLamp (dg hκ) h) rfl rfl rfl (gV wm_17_14 wm_17_15 wm_17_16 wm_1_5 wm_17_17) hqV_X10_isLamp ⟨Nat.le_of_ble_eq_true rfl, Nat.le_of_ble_eq_true rfl⟩ (wg_11 g _ _) rfl rfl rfl (Nat.le_of_ble_eq_true rfl) dX10_isLit_2 rfl (fun r2 M1 h => ?_)
  refine j_if_eq (tgt := 21) (pc' := 8) hκ dX10_isLit_5 (by decide) rfl (fun c => ?_) (fun c => ?_)
  · replace h := h.1 c
    refine j_iconst (pc' := 22) (v := 0) hκ (by decide) dX10_isLit_21 rfl ?_
    exact hR _ _ _ _ dX10_isLit_22 (Or.inl rfl) h
  · replace h := h.2 c
    refine j_aload_n (pc' := 9) hκ 0 rfl rfl dX10_isLit_8 rfl ?_
    refine jg_11_13 (pc' := 12) hκ (mi inlX10) (fl_in hκ (mc wm_7_21)) dX10_isLit_9 rfl ?_
    refine j_iload_n (pc' := 13) hκ 1 rfl rfl dX10_isLit_12 rfl ?_
    refine jm_zald (pc' := 14) hκ (ah_58 g) h.1 dX10_isLit_13 rfl ?_
    replace h := h.2
    refine j_if_ne (tgt := 21) (pc' := 17) hκ dX10_isLit_14 (by decide) rfl (fun c => ?_) (fun c => ?_)
    · replace h := h.1 c
      refine j_iconst (pc' := 22) (v := 0) hκ (by decide) dX10_isLit_21 rfl ?_
      exact hR _ _ _ _ dX10_isLit_22 (Or.inl rfl) h
    · replace h := h.2 c
      refine j_iconst (pc' := 18) (v := 1) hκ (by decide) dX10_isLit_17 rfl ?_
      refine j_goto (pc' := 22) hκ (by decide) dX10_isLit_18 ?_
      exact hR _ _ _ _ dX10_isLit_22 (Or.inr rfl) h
theorem c_m_isLit {g : Gx} (hg : Dg g) {X M : ST} {p1 : Int32} {post : Int32 → ST → Prop} (h : wp_m_isLit M p1 post) (l : Launch) : Met l yX10_isLit wq_X10_isLit rm_m_isLit (va_Pc [.ref (g.2.1 11), .int p1] (PU g X M)) (va_Qi post (fun Y t => va_P g.1 vwCl (ww g X Y) t.heap) (wA g)) 0 0 (wA g) :=
  met_mz hg (by decide) rfl [.ref (g.2.1 11), .int p1] rfl (Nat.le_of_ble_eq_true rfl) (fun κ hκ hR => lb_m_isLit hκ hR h) l
theorem wm_27_8 : Cond.methodLink RX10 186 yX10_isLit ∈ wAll := inr_27 (List.mem_of_getElem? (i := 8) rfl)
theorem wm_27_9 : Cond.instanceMethod yX10_isLit ∈ wAll := inr_27 (List.mem_of_getElem? (i := 9) rfl)
theorem wm_27_10 : Cond.selects RX10 yX10_isLit yX10_isLit ∈ wAll := inr_27 (List.mem_of_getElem? (i := 10) rfl)
theorem wm_27_11 : Cond.code yX10_isLit cX10_isLit 2 (some .boolean) ∈ wAll := inr_27 (List.mem_of_getElem? (i := 11) rfl)
theorem hqV_X10_isLit : yX10_isLit.cls = RX10 ∧ yX10_isLit.cls ≠ "java/lang/invoke/MethodHandle" ∧ yX10_isLit.cls ≠ "java/lang/invoke/VarHandle" ∧ (parseMethodDescriptor yX10_isLit.desc).map (fun d => d.parameters.length) = some 1 := by decide +kernel
abbrev rm_m_with : Room := { frames := 4, cells := 0, slots := 0, locals := 102 }
def wp_m_with_45 (post : Int32 → ST → Prop) (M : ST) (l1 : Int32) (l2 : Int32) (s0 : Int32) : Prop :=
  wp_m_search M s0 l1 l2 (fun r8 M7 => (¬ r8 = 1000000000 → (post r8 M7)) ∧ (r8 = 1000000000 → (post (-7) M7)))
set_option maxHeartbeats 4000000 in
set_option maxRecDepth 100000 in
theorem lb_m_with_45 {κ : Cx} {g : Gx} {X : ST} (hκ : CF κ g RX10 cX10_with wq_X10_with 5 rm_m_with) {post : Int32 → ST → Prop} (hR : RtmI κ g 5 cX10_with X post) : ∀ (M : ST) (l1 : Int32) (l2 : Int32) (s0 : Int32), wp_m_with_45 post M l1 l2 s0 → Jw κ g 5 X M [(1, .int l1), (2, .int l2)] 45 [.int s0, .ref (g.2.1 11)] := by
  intro M l1 l2 s0  h
  unfold wp_m_with_45 at h
  refine j_iload_n (pc' := 46) hκ 0 rfl rfl dX10_with_45 rfl ?_
  refine j_iload_n (pc' := 47) hκ 1 rfl rfl dX10_with_46 rfl ?_
  refine jm_callVi (pc' := 50) hκ (c_m_search (dg hκ) h) rfl rfl rfl (gV wm_24_5 wm_24_6 wm_24_7 wm_1_5 wm_24_8) hqV_X10_search ⟨Nat.le_of_ble_eq_true rfl, Nat.le_of_ble_eq_true rfl⟩ (wg_11 g _ _) rfl rfl rfl (Nat.le_of_ble_eq_true rfl) dX10_with_47 rfl (fun r8 M7 h => ?_)
  refine j_istore (pc' := 52) (lv' := [(4, .int r8), (1, .int l1), (2, .int l2)]) hκ (Nat.le_of_ble_eq_true rfl) rfl dX10_with_50 rfl ?_
  refine j_iload (pc' := 54) hκ 0 rfl dX10_with_52 rfl ?_
  refine j_ldc (pc' := 56) hκ (mc wm_8_19) dX10_with_54 rfl ?_
  refine j_icmp_ne (tgt := 64) (pc' := 59) hκ dX10_with_56 (by decide) rfl (fun c => ?_) (fun c => ?_)
  · replace h := h.1 c
    refine j_iload (pc' := 66) hκ 0 rfl dX10_with_64 rfl ?_
    exact hR _ _ _ _ dX10_with_66 h
  · replace h := h.2 c
    refine j_bipush (pc' := 61) (v := (-7)) hκ (by decide) dX10_with_59 rfl ?_
    refine j_goto (pc' := 66) hκ (by decide) dX10_with_61 ?_
    exact hR _ _ _ _ dX10_with_66 h
def wp_m_with (M : ST) (p1 : Int32) (p2 : Int32) (p3 : Int32) (post : Int32 → ST → Prop) : Prop :=
  wp_m_isLit M p1 (fun r2 M1 => (r2 = 0 → (post (-1) M1)) ∧ (¬ r2 = 0 → (wp_m_isLit M1 p2 (fun r4 M3 => (r4 = 0 → (post (-1) M3)) ∧ (¬ r4 = 0 → ((¬ p1 = p2 → (wp_m_lit M3 (fun r6 M5 => (r6 ≤ 8 → ((p3 = 0 → (wp_m_with_45 post M5 p1 p2 3)) ∧ (¬ p3 = 0 → (wp_m_with_45 post M5 p1 p2 2)))) ∧ (¬ r6 ≤ 8 → (post (-8) M5))))) ∧ (p1 = p2 → (post (-1) M3))))))))
set_option maxHeartbeats 4000000 in
set_option maxRecDepth 100000 in
theorem lb_m_with {κ : Cx} {g : Gx} {X : ST} (hκ : CF κ g RX10 cX10_with wq_X10_with 5 rm_m_with) {post : Int32 → ST → Prop} (hR : RtmI κ g 5 cX10_with X post) {M : ST} {p1 : Int32} {p2 : Int32} {p3 : Int32} (h : wp_m_with M p1 p2 p3 post) : Jw κ g 5 X M [(0, .ref (g.2.1 11)), (1, .int p1), (2, .int p2), (3, .int p3)] 0 [] := by
  unfold wp_m_with at h
  refine j_aload_n (pc' := 1) hκ 0 rfl rfl dX10_with_0 rfl ?_
  refine j_iload_n (pc' := 2) hκ 1 rfl rfl dX10_with_1 rfl ?_
  refine jm_callVi (pc' := 5) hκ (c_m_isLit (dg hκ) h) rfl rfl rfl (gV wm_27_8 wm_27_9 wm_27_10 wm_1_5 wm_27_11) hqV_X10_isLit ⟨Nat.le_of_ble_eq_true rfl, Nat.le_of_ble_eq_true rfl⟩ (wg_11 g _ _) rfl rfl rfl (Nat.le_of_ble_eq_true rfl) dX10_with_2 rfl (fun r2 M1 h => ?_)
  refine j_if_eq (tgt := 21) (pc' := 8) hκ dX10_with_5 (by decide) rfl (fun c => ?_) (fun c => ?_)
  · replace h := h.1 c
    refine j_iconst (pc' := 22) (v := (-1)) hκ (by decide) dX10_with_21 rfl ?_
    exact hR _ _ _ _ dX10_with_22 h
  · replace h := h.2 c
    refine j_aload_n (pc' := 9) hκ 0 rfl rfl dX10_with_8 rfl ?_
    refine j_iload_n (pc' := 10) hκ 2 rfl rfl dX10_with_9 rfl ?_
    refine jm_callVi (pc' := 13) hκ (c_m_isLit (dg hκ) h) rfl rfl rfl (gV wm_27_8 wm_27_9 wm_27_10 wm_1_5 wm_27_11) hqV_X10_isLit ⟨Nat.le_of_ble_eq_true rfl, Nat.le_of_ble_eq_true rfl⟩ (wg_11 g _ _) rfl rfl rfl (Nat.le_of_ble_eq_true rfl) dX10_with_10 rfl (fun r4 M3 h => ?_)
    refine j_if_eq (tgt := 21) (pc' := 16) hκ dX10_with_13 (by decide) rfl (fun c => ?_) (fun c => ?_)
    · replace h := h.1 c
      refine j_iconst (pc' := 22) (v := (-1)) hκ (by decide) dX10_with_21 rfl ?_
      exact hR _ _ _ _ dX10_with_22 h
    · replace h := h.2 c
      refine j_iload_n (pc' := 17) hκ 1 rfl rfl dX10_with_16 rfl ?_
      refine j_iload_n (pc' := 18) hκ 2 rfl rfl dX10_with_17 rfl ?_
      refine j_icmp_ne (tgt := 23) (pc' := 21) hκ dX10_with_18 (by decide) rfl (fun c => ?_) (fun c => ?_)
      · replace h := h.1 c
        refine j_aload_n (pc' := 24) hκ 0 rfl rfl dX10_with_23 rfl ?_
        refine jm_callVi (pc' := 27) hκ (c_m_lit (dg hκ) h) rfl rfl rfl (gV wm_21_16 wm_21_17 wm_21_18 wm_1_5 wm_21_19) hqV_X10_lit ⟨Nat.le_of_ble_eq_true rfl, Nat.le_of_ble_eq_true rfl⟩ (wg_11 g _ _) rfl rfl rfl (Nat.le_of_ble_eq_true rfl) dX10_with_24 rfl (fun r6 M5 h => ?_)
        refine j_bipush (pc' := 29) (v := 8) hκ (by decide) dX10_with_27 rfl ?_
        refine j_icmp_le (tgt := 35) (pc' := 32) hκ dX10_with_29 (by decide) rfl (fun c => ?_) (fun c => ?_)
        · replace h := h.1 c
          refine j_aload_n (pc' := 36) hκ 0 rfl rfl dX10_with_35 rfl ?_
          refine j_iload_n (pc' := 37) hκ 3 rfl rfl dX10_with_36 rfl ?_
          refine j_if_eq (tgt := 44) (pc' := 40) hκ dX10_with_37 (by decide) rfl (fun c => ?_) (fun c => ?_)
          · replace h := h.1 c
            refine j_iconst (pc' := 45) (v := 3) hκ (by decide) dX10_with_44 rfl ?_
            refine j_sub [1, 2] rfl ?_
            refine lb_m_with_45 hκ hR _ _ _ _  h
          · replace h := h.2 c
            refine j_iconst (pc' := 41) (v := 2) hκ (by decide) dX10_with_40 rfl ?_
            refine j_goto (pc' := 45) hκ (by decide) dX10_with_41 ?_
            refine j_sub [1, 2] rfl ?_
            refine lb_m_with_45 hκ hR _ _ _ _  h
        · replace h := h.2 c
          refine j_bipush (pc' := 34) (v := (-8)) hκ (by decide) dX10_with_32 rfl ?_
          exact hR _ _ _ _ dX10_with_34 h
      · replace h := h.2 c
        refine j_iconst (pc' := 22) (v := (-1)) hκ (by decide) dX10_with_21 rfl ?_
        exact hR _ _ _ _ dX10_with_22 h
theorem c_m_with {g : Gx} (hg : Dg g) {X M : ST} {p1 : Int32} {p2 : Int32} {p3 : Int32} {post : Int32 → ST → Prop} (h : wp_m_with M p1 p2 p3 post) (l : Launch) : Met l yX10_with wq_X10_with rm_m_with (va_Pc [.ref (g.2.1 11), .int p1, .int p2, .int p3] (PU g X M)) (va_Qi post (fun Y t => va_P g.1 vwCl (ww g X Y) t.heap) (wA g)) 0 0 (wA g) :=
  met_mi hg (by decide) rfl [.ref (g.2.1 11), .int p1, .int p2, .int p3] rfl (Nat.le_of_ble_eq_true rfl) (fun κ hκ hR => lb_m_with hκ hR h) l
abbrev rm_m_put : Room := { frames := 1, cells := 0, slots := 0, locals := 24 }
def wp_m_put (M : ST) (p1 : Int32) (post : Int32 → ST → Prop) : Prop :=
  wp_m_isLamp M p1 (fun r2 M1 => (¬ r2 = 0 → (vp_in p1 12 ∧ ((¬ (m_isOut M1 p1.toNatClampNeg) = 0 → (post (-4) M1)) ∧ ((m_isOut M1 p1.toNatClampNeg) = 0 → (wp_m_placeOf M1 60 12 (m_told M1) p1 (fun r4 M3 => (r4 < 0 → (vp_in (m_told M3) 12 ∧ (∀ M5 : ST, M5 = ms_round M3 (upd (m_round M3) (m_told M3).toNatClampNeg p1) → ∀ M6 : ST, M6 = ms_told M5 ((m_told M5) + 1) → post (m_told M6) M6))) ∧ (¬ r4 < 0 → (post (-4) M3)))))))) ∧ (r2 = 0 → (post (-1) M1)))
set_option maxHeartbeats 4000000 in
set_option maxRecDepth 100000 in
theorem lb_m_put {κ : Cx} {g : Gx} {X : ST} (hκ : CF κ g RX10 cX10_put wq_X10_put 2 rm_m_put) {post : Int32 → ST → Prop} (hR : RtmI κ g 2 cX10_put X post) {M : ST} {p1 : Int32} (h : wp_m_put M p1 post) : Jw κ g 2 X M [(0, .ref (g.2.1 11)), (1, .int p1)] 0 [] := by
  unfold wp_m_put at h
  refine j_aload_n (pc' := 1) hκ 0 rfl rfl dX10_put_0 rfl ?_
  refine j_iload_n (pc' := 2) hκ 1 rfl rfl dX10_put_1 rfl ?_
  refine jm_callVi (pc' := 5) hκ (c_m_isLamp (dg hκ) h) rfl rfl rfl (gV wm_17_14 wm_17_15 wm_17_16 wm_1_5 wm_17_17) hqV_X10_isLamp ⟨Nat.le_of_ble_eq_true rfl, Nat.le_of_ble_eq_true rfl⟩ (wg_11 g _ _) rfl rfl rfl (Nat.le_of_ble_eq_true rfl) dX10_put_2 rfl (fun r2 M1 h => ?_)
  refine j_if_ne (tgt := 10) (pc' := 8) hκ dX10_put_5 (by decide) rfl (fun c => ?_) (fun c => ?_)
  · replace h := h.1 c
    refine j_aload_n (pc' := 11) hκ 0 rfl rfl dX10_put_10 rfl ?_
    refine jg_11_13 (pc' := 14) hκ (mi inlX10) (fl_in hκ (mc wm_7_21)) dX10_put_11 rfl ?_
    refine j_iload_n (pc' := 15) hκ 1 rfl rfl dX10_put_14 rfl ?_
    refine jm_zald (pc' := 16) hκ (ah_58 g) h.1 dX10_put_15 rfl ?_
    replace h := h.2
    refine j_if_ne (tgt := 34) (pc' := 19) hκ dX10_put_16 (by decide) rfl (fun c => ?_) (fun c => ?_)
    · replace h := h.1 c
      refine j_bipush (pc' := 36) (v := (-4)) hκ (by decide) dX10_put_34 rfl ?_
      exact hR _ _ _ _ dX10_put_36 h
    · replace h := h.2 c
      refine j_aload_n (pc' := 20) hκ 0 rfl rfl dX10_put_19 rfl ?_
      refine jg_11_16 (pc' := 23) hκ (mi inlX10) (fl_in hκ (mc wm_7_23)) dX10_put_20 rfl ?_
      refine j_aload_n (pc' := 24) hκ 0 rfl rfl dX10_put_23 rfl ?_
      refine jg_11_15 (pc' := 27) hκ (mi inlX10) (fl_in hκ (mc wm_10_8)) dX10_put_24 rfl ?_
      refine j_iload_n (pc' := 28) hκ 1 rfl rfl dX10_put_27 rfl ?_
      refine jm_callSi (pc' := 31) hκ (c_m_placeOf (dg hκ) (ah_60 g) h) rfl rfl rfl (gS wm_24_20 wm_24_21 wm_1_5 wm_24_22) hqS_X10_placeOf ⟨Nat.le_of_ble_eq_true rfl, Nat.le_of_ble_eq_true rfl⟩ rfl rfl (Nat.le_of_ble_eq_true rfl) dX10_put_28 rfl (fun r4 M3 h => ?_)
      refine j_if_lt (tgt := 37) (pc' := 34) hκ dX10_put_31 (by decide) rfl (fun c => ?_) (fun c => ?_)
      · replace h := h.1 c
        refine j_aload_n (pc' := 38) hκ 0 rfl rfl dX10_put_37 rfl ?_
        refine jg_11_16 (pc' := 41) hκ (mi inlX10) (fl_in hκ (mc wm_7_23)) dX10_put_38 rfl ?_
        refine j_aload_n (pc' := 42) hκ 0 rfl rfl dX10_put_41 rfl ?_
        refine jg_11_15 (pc' := 45) hκ (mi inlX10) (fl_in hκ (mc wm_10_8)) dX10_put_42 rfl ?_
        refine j_iload_n (pc' := 46) hκ 1 rfl rfl dX10_put_45 rfl ?_
        refine jm_iast (pc' := 47) hκ (ah_60 g) h.1 dX10_put_46 rfl ?_
        replace h := h.2
        refine j_nmM (fun M5 eM5 => ?_)
        replace h := h M5 eM5
        refine j_aload_n (pc' := 48) hκ 0 rfl rfl dX10_put_47 rfl ?_
        refine j_dup (pc' := 49) hκ rfl dX10_put_48 rfl ?_
        refine jg_11_15 (pc' := 52) hκ (mi inlX10) (fl_in hκ (mc wm_10_8)) dX10_put_49 rfl ?_
        refine j_iconst (pc' := 53) (v := 1) hκ (by decide) dX10_put_52 rfl ?_
        refine j_iadd (pc' := 54) hκ dX10_put_53 rfl ?_
        refine jp_11_15 (pc' := 57) hκ (mi inlX10) (fl_in hκ (mc wm_10_8)) dX10_put_54 rfl ?_
        refine j_nmM (fun M6 eM6 => ?_)
        replace h := h M6 eM6
        refine j_aload_n (pc' := 58) hκ 0 rfl rfl dX10_put_57 rfl ?_
        refine jg_11_15 (pc' := 61) hκ (mi inlX10) (fl_in hκ (mc wm_10_8)) dX10_put_58 rfl ?_
        exact hR _ _ _ _ dX10_put_61 h
      · replace h := h.2 c
        refine j_bipush (pc' := 36) (v := (-4)) hκ (by decide) dX10_put_34 rfl ?_
        exact hR _ _ _ _ dX10_put_36 h
  · replace h := h.2 c
    refine j_iconst (pc' := 9) (v := (-1)) hκ (by decide) dX10_put_8 rfl ?_
    exact hR _ _ _ _ dX10_put_9 h
theorem c_m_put {g : Gx} (hg : Dg g) {X M : ST} {p1 : Int32} {post : Int32 → ST → Prop} (h : wp_m_put M p1 post) (l : Launch) : Met l yX10_put wq_X10_put rm_m_put (va_Pc [.ref (g.2.1 11), .int p1] (PU g X M)) (va_Qi post (fun Y t => va_P g.1 vwCl (ww g X Y) t.heap) (wA g)) 0 0 (wA g) :=
  met_mi hg (by decide) rfl [.ref (g.2.1 11), .int p1] rfl (Nat.le_of_ble_eq_true rfl) (fun κ hκ hR => lb_m_put hκ hR h) l
abbrev rm_m_clear : Room := { frames := 0, cells := 0, slots := 0, locals := 0 }
def wp_m_clear (M : ST) (post : Int32 → ST → Prop) : Prop :=
  ∀ v1 : Int32, v1 = m_told M → ∀ M2 : ST, M2 = ms_told M 0 → post v1 M2
set_option maxHeartbeats 4000000 in
set_option maxRecDepth 100000 in
theorem lb_m_clear {κ : Cx} {g : Gx} {X : ST} (hκ : CF κ g RX10 cX10_clear wq_X10_clear 2 rm_m_clear) {post : Int32 → ST → Prop} (hR : RtmI κ g 2 cX10_clear X post) {M : ST} (h : wp_m_clear M post) : Jw κ g 2 X M [(0, .ref (g.2.1 11))] 0 [] := by
  unfold wp_m_clear at h
  refine j_aload_n (pc' := 1) hκ 0 rfl rfl dX10_clear_0 rfl ?_
  refine jg_11_15 (pc' := 4) hκ (mi inlX10) (fl_in hκ (mc wm_10_8)) dX10_clear_1 rfl ?_
  refine j_topi (fun v1 ev1 => ?_)
  replace h := h v1 ev1
  refine j_istore_n (pc' := 5) (lv' := [(1, .int v1), (0, .ref (g.2.1 11))]) hκ (Nat.le_of_ble_eq_true rfl) rfl rfl dX10_clear_4 rfl ?_
  refine j_aload_n (pc' := 6) hκ 1 rfl rfl dX10_clear_5 rfl ?_
  refine j_iconst (pc' := 7) (v := 0) hκ (by decide) dX10_clear_6 rfl ?_
  refine jp_11_15 (pc' := 10) hκ (mi inlX10) (fl_in hκ (mc wm_10_8)) dX10_clear_7 rfl ?_
  refine j_nmM (fun M2 eM2 => ?_)
  replace h := h M2 eM2
  refine j_iload_n (pc' := 11) hκ 0 rfl rfl dX10_clear_10 rfl ?_
  exact hR _ _ _ _ dX10_clear_11 h
theorem c_m_clear {g : Gx} (hg : Dg g) {X M : ST} {post : Int32 → ST → Prop} (h : wp_m_clear M post) (l : Launch) : Met l yX10_clear wq_X10_clear rm_m_clear (va_Pc [.ref (g.2.1 11)] (PU g X M)) (va_Qi post (fun Y t => va_P g.1 vwCl (ww g X Y) t.heap) (wA g)) 0 0 (wA g) :=
  met_mi hg (by decide) rfl [.ref (g.2.1 11)] rfl (Nat.le_of_ble_eq_true rfl) (fun κ hκ hR => lb_m_clear hκ hR h) l
abbrev rm_m_at : Room := { frames := 0, cells := 0, slots := 0, locals := 0 }
def wp_m_at (M : ST) (p1 : Int32) (post : Int32 → ST → Prop) : Prop :=
  (p1 < 0 → (post (-1) M)) ∧ (¬ p1 < 0 → ((p1 < (m_told M) → (vp_in p1 12 ∧ (post (m_round M p1.toNatClampNeg) M))) ∧ (¬ p1 < (m_told M) → (post (-1) M))))
set_option maxHeartbeats 4000000 in
set_option maxRecDepth 100000 in
theorem lb_m_at {κ : Cx} {g : Gx} {X : ST} (hκ : CF κ g RX10 cX10_at wq_X10_at 2 rm_m_at) {post : Int32 → ST → Prop} (hR : RtmI κ g 2 cX10_at X post) {M : ST} {p1 : Int32} (h : wp_m_at M p1 post) : Jw κ g 2 X M [(0, .ref (g.2.1 11)), (1, .int p1)] 0 [] := by
  unfold wp_m_at at h
  refine j_iload_n (pc' := 1) hκ 1 rfl rfl dX10_at_0 rfl ?_
  refine j_if_lt (tgt := 12) (pc' := 4) hκ dX10_at_1 (by decide) rfl (fun c => ?_) (fun c => ?_)
  · replace h := h.1 c
    refine j_iconst (pc' := 13) (v := (-1)) hκ (by decide) dX10_at_12 rfl ?_
    refine j_goto (pc' := 22) hκ (by decide) dX10_at_13 ?_
    exact hR _ _ _ _ dX10_at_22 h
  · replace h := h.2 c
    refine j_iload_n (pc' := 5) hκ 1 rfl rfl dX10_at_4 rfl ?_
    refine j_aload_n (pc' := 6) hκ 0 rfl rfl dX10_at_5 rfl ?_
    refine jg_11_15 (pc' := 9) hκ (mi inlX10) (fl_in hκ (mc wm_10_8)) dX10_at_6 rfl ?_
    refine j_icmp_lt (tgt := 16) (pc' := 12) hκ dX10_at_9 (by decide) rfl (fun c => ?_) (fun c => ?_)
    · replace h := h.1 c
      refine j_aload_n (pc' := 17) hκ 0 rfl rfl dX10_at_16 rfl ?_
      refine jg_11_16 (pc' := 20) hκ (mi inlX10) (fl_in hκ (mc wm_7_23)) dX10_at_17 rfl ?_
      refine j_iload_n (pc' := 21) hκ 1 rfl rfl dX10_at_20 rfl ?_
      refine jm_iald (pc' := 22) hκ (ah_60 g) h.1 dX10_at_21 rfl ?_
      replace h := h.2
      exact hR _ _ _ _ dX10_at_22 h
    · replace h := h.2 c
      refine j_iconst (pc' := 13) (v := (-1)) hκ (by decide) dX10_at_12 rfl ?_
      refine j_goto (pc' := 22) hκ (by decide) dX10_at_13 ?_
      exact hR _ _ _ _ dX10_at_22 h
theorem c_m_at {g : Gx} (hg : Dg g) {X M : ST} {p1 : Int32} {post : Int32 → ST → Prop} (h : wp_m_at M p1 post) (l : Launch) : Met l yX10_at wq_X10_at rm_m_at (va_Pc [.ref (g.2.1 11), .int p1] (PU g X M)) (va_Qi post (fun Y t => va_P g.1 vwCl (ww g X Y) t.heap) (wA g)) 0 0 (wA g) :=
  met_mi hg (by decide) rfl [.ref (g.2.1 11), .int p1] rfl (Nat.le_of_ble_eq_true rfl) (fun κ hκ hR => lb_m_at hκ hR h) l
abbrev rm_m_length : Room := { frames := 2, cells := 0, slots := 0, locals := 47 }
def wp_m_length (M : ST) (post : Int32 → ST → Prop) : Prop :=
  wp_m_isWhole M (fun r2 M1 => (¬ r2 = 0 → (wp_m_lengthOf M1 60 12 (m_told M1) (fun r4 M3 => (¬ r4 = 1000000000 → (post r4 M3)) ∧ (r4 = 1000000000 → (post (-10) M3))))) ∧ (r2 = 0 → (post (-4) M1)))
set_option maxHeartbeats 4000000 in
set_option maxRecDepth 100000 in
theorem lb_m_length {κ : Cx} {g : Gx} {X : ST} (hκ : CF κ g RX10 cX10_length wq_X10_length 2 rm_m_length) {post : Int32 → ST → Prop} (hR : RtmI κ g 2 cX10_length X post) {M : ST} (h : wp_m_length M post) : Jw κ g 2 X M [(0, .ref (g.2.1 11))] 0 [] := by
  unfold wp_m_length at h
  refine j_aload_n (pc' := 1) hκ 0 rfl rfl dX10_length_0 rfl ?_
  refine jm_callVi (pc' := 4) hκ (c_m_isWhole (dg hκ) h) rfl rfl rfl (gV wm_26_12 wm_26_13 wm_26_14 wm_1_5 wm_26_15) hqV_X10_isWhole ⟨Nat.le_of_ble_eq_true rfl, Nat.le_of_ble_eq_true rfl⟩ (wg_11 g _ _) rfl rfl rfl (Nat.le_of_ble_eq_true rfl) dX10_length_1 rfl (fun r2 M1 h => ?_)
  refine j_if_ne (tgt := 10) (pc' := 7) hκ dX10_length_4 (by decide) rfl (fun c => ?_) (fun c => ?_)
  · replace h := h.1 c
    refine j_aload_n (pc' := 11) hκ 0 rfl rfl dX10_length_10 rfl ?_
    refine j_aload_n (pc' := 12) hκ 0 rfl rfl dX10_length_11 rfl ?_
    refine jg_11_16 (pc' := 15) hκ (mi inlX10) (fl_in hκ (mc wm_7_23)) dX10_length_12 rfl ?_
    refine j_aload_n (pc' := 16) hκ 0 rfl rfl dX10_length_15 rfl ?_
    refine jg_11_15 (pc' := 19) hκ (mi inlX10) (fl_in hκ (mc wm_10_8)) dX10_length_16 rfl ?_
    refine jm_callVi (pc' := 22) hκ (c_m_lengthOf (dg hκ) (ah_60 g) h) rfl rfl rfl (gV wm_24_9 wm_24_10 wm_24_11 wm_1_5 wm_24_12) hqV_X10_lengthOf ⟨Nat.le_of_ble_eq_true rfl, Nat.le_of_ble_eq_true rfl⟩ (wg_11 g _ _) rfl rfl rfl (Nat.le_of_ble_eq_true rfl) dX10_length_19 rfl (fun r4 M3 h => ?_)
    refine j_istore_n (pc' := 23) (lv' := [(1, .int r4), (0, .ref (g.2.1 11))]) hκ (Nat.le_of_ble_eq_true rfl) rfl rfl dX10_length_22 rfl ?_
    refine j_iload_n (pc' := 24) hκ 0 rfl rfl dX10_length_23 rfl ?_
    refine j_ldc (pc' := 26) hκ (mc wm_8_19) dX10_length_24 rfl ?_
    refine j_icmp_ne (tgt := 34) (pc' := 29) hκ dX10_length_26 (by decide) rfl (fun c => ?_) (fun c => ?_)
    · replace h := h.1 c
      refine j_iload_n (pc' := 35) hκ 0 rfl rfl dX10_length_34 rfl ?_
      exact hR _ _ _ _ dX10_length_35 h
    · replace h := h.2 c
      refine j_bipush (pc' := 31) (v := (-10)) hκ (by decide) dX10_length_29 rfl ?_
      refine j_goto (pc' := 35) hκ (by decide) dX10_length_31 ?_
      exact hR _ _ _ _ dX10_length_35 h
  · replace h := h.2 c
    refine j_bipush (pc' := 9) (v := (-4)) hκ (by decide) dX10_length_7 rfl ?_
    exact hR _ _ _ _ dX10_length_9 h
theorem c_m_length {g : Gx} (hg : Dg g) {X M : ST} {post : Int32 → ST → Prop} (h : wp_m_length M post) (l : Launch) : Met l yX10_length wq_X10_length rm_m_length (va_Pc [.ref (g.2.1 11)] (PU g X M)) (va_Qi post (fun Y t => va_P g.1 vwCl (ww g X Y) t.heap) (wA g)) 0 0 (wA g) :=
  met_mi hg (by decide) rfl [.ref (g.2.1 11)] rfl (Nat.le_of_ble_eq_true rfl) (fun κ hκ hR => lb_m_length hκ hR h) l
