abbrev rm_m_keeps : Room := { frames := 3, cells := 0, slots := 0, locals := 73 }
def wp_m_keeps (M : ST) (post : Int32 → ST → Prop) : Prop :=
  wp_m_isWhole M (fun r2 M1 => (¬ r2 = 0 → (wp_m_keepsTwins M1 60 12 (m_told M1) (fun r4 M3 => (r4 = 0 → (post 0 M3)) ∧ (¬ r4 = 0 → (post 1 M3))))) ∧ (r2 = 0 → (post (-4) M1)))
set_option maxHeartbeats 4000000 in
set_option maxRecDepth 100000 in
theorem lb_m_keeps {κ : Cx} {g : Gx} {X : ST} (hκ : CF κ g RX10 cX10_keeps wq_X10_keeps 1 rm_m_keeps) {post : Int32 → ST → Prop} (hR : RtmI κ g 1 cX10_keeps X post) {M : ST} (h : wp_m_keeps M post) : Jw κ g 1 X M [(0, .ref (g.2.1 11))] 0 [] := by
  unfold wp_m_keeps at h
  refine j_aload_n (pc' := 1) hκ 0 rfl rfl dX10_keeps_0 rfl ?_
  refine jm_callVi (pc' := 4) hκ (c_m_isWhole (dg hκ) h) rfl rfl rfl (gV wm_26_12 wm_26_13 wm_26_14 wm_1_5 wm_26_15) hqV_X10_isWhole ⟨Nat.le_of_ble_eq_true rfl, Nat.le_of_ble_eq_true rfl⟩ (wg_11 g _ _) rfl rfl rfl (Nat.le_of_ble_eq_true rfl) dX10_keeps_1 rfl (fun r2 M1 h => ?_)
  refine j_if_ne (tgt := 12) (pc' := 7) hκ dX10_keeps_4 (by decide) rfl (fun c => ?_) (fun c => ?_)
  · replace h := h.1 c
    refine j_aload_n (pc' := 13) hκ 0 rfl rfl dX10_keeps_12 rfl ?_
    refine j_aload_n (pc' := 14) hκ 0 rfl rfl dX10_keeps_13 rfl ?_
    refine jg_11_16 (pc' := 17) hκ (mi inlX10) (fl_in hκ (mc wm_7_23)) dX10_keeps_14 rfl ?_
    refine j_aload_n (pc' := 18) hκ 0 rfl rfl dX10_keeps_17 rfl ?_
    refine jg_11_15 (pc' := 21) hκ (mi inlX10) (fl_in hκ (mc wm_10_8)) dX10_keeps_18 rfl ?_
    refine jm_callVi (pc' := 24) hκ (c_m_keepsTwins (dg hκ) (ah_60 g) h) rfl rfl rfl (gV wm_24_13 wm_24_14 wm_24_15 wm_1_5 wm_24_16) hqV_X10_keepsTwins ⟨Nat.le_of_ble_eq_true rfl, Nat.le_of_ble_eq_true rfl⟩ (wg_11 g _ _) rfl rfl rfl (Nat.le_of_ble_eq_true rfl) dX10_keeps_21 rfl (fun r4 M3 h => ?_)
    refine j_if_eq (tgt := 31) (pc' := 27) hκ dX10_keeps_24 (by decide) rfl (fun c => ?_) (fun c => ?_)
    · replace h := h.1 c
      refine j_iconst (pc' := 32) (v := 0) hκ (by decide) dX10_keeps_31 rfl ?_
      exact hR _ _ _ _ dX10_keeps_32 h
    · replace h := h.2 c
      refine j_iconst (pc' := 28) (v := 1) hκ (by decide) dX10_keeps_27 rfl ?_
      refine j_goto (pc' := 32) hκ (by decide) dX10_keeps_28 ?_
      exact hR _ _ _ _ dX10_keeps_32 h
  · replace h := h.2 c
    refine j_bipush (pc' := 9) (v := (-4)) hκ (by decide) dX10_keeps_7 rfl ?_
    refine j_goto (pc' := 32) hκ (by decide) dX10_keeps_9 ?_
    exact hR _ _ _ _ dX10_keeps_32 h
theorem c_m_keeps {g : Gx} (hg : Dg g) {X M : ST} {post : Int32 → ST → Prop} (h : wp_m_keeps M post) (l : Launch) : Met l yX10_keeps wq_X10_keeps rm_m_keeps (va_Pc [.ref (g.2.1 11)] (PU g X M)) (va_Qi post (fun Y t => va_P g.1 vwCl (ww g X Y) t.heap) (wA g)) 0 0 (wA g) :=
  met_mi hg (by decide) rfl [.ref (g.2.1 11)] rfl (Nat.le_of_ble_eq_true rfl) (fun κ hκ hR => lb_m_keeps hκ hR h) l
abbrev rm_m_turnRound : Room := { frames := 0, cells := 0, slots := 0, locals := 0 }
def wp_m_turnRound_7_s (K52 : ST → Prop) (post : ST → Prop) (rec : ST → Int32 → Int32 → Prop) (M : ST) (l3 : Int32) (l4 : Int32) : Prop :=
  (l4 ≤ l3 → (K52 M)) ∧ (¬ l4 ≤ l3 → (vp_in l3 12 ∧ (∀ v2 : Int32, v2 = m_round M l3.toNatClampNeg → vp_in l4 12 ∧ (vp_in l3 12 ∧ (∀ M3 : ST, M3 = ms_round M (upd (m_round M) l3.toNatClampNeg (m_round M l4.toNatClampNeg)) → vp_in l4 12 ∧ (∀ M4 : ST, M4 = ms_round M3 (upd (m_round M3) l4.toNatClampNeg v2) → rec M4 (l3 + 1) (l4 + (-1))))))))
def wp_m_turnRound_7 (K52 : ST → Prop) (post : ST → Prop) : Nat → ST → Int32 → Int32 → Prop
  | 0 => fun _ _ _ => False
  | n + 1 => wp_m_turnRound_7_s K52 post (wp_m_turnRound_7 K52 post n)
set_option maxHeartbeats 4000000 in
set_option maxRecDepth 100000 in
theorem lb_m_turnRound_7 {κ : Cx} {g : Gx} {X : ST} (hκ : CF κ g RX10 cX10_turnRound wq_X10_turnRound 6 rm_m_turnRound) {post : ST → Prop} (hR : RtmV κ g 6 cX10_turnRound X post) {K52 : ST → Prop} (hK52 : ∀ (M : ST), K52 M → Jw κ g 6 X M [] 52 []) : ∀ (n : Nat) (M : ST) (l3 : Int32) (l4 : Int32), wp_m_turnRound_7 K52 post n M l3 l4 → Jw κ g 6 X M [(0, .ref (g.2.1 11)), (3, .int l3), (4, .int l4)] 7 [] := by
  intro n
  induction n with
  | zero =>
    intro M l3 l4  h
    exact h.elim
  | succ n ih =>
    intro M l3 l4  h
    have h : wp_m_turnRound_7_s K52 post (wp_m_turnRound_7 K52 post n) M l3 l4 := h
    unfold wp_m_turnRound_7_s at h
    refine j_iload_n (pc' := 8) hκ 1 rfl rfl dX10_turnRound_7 rfl ?_
    refine j_iload (pc' := 10) hκ 2 rfl dX10_turnRound_8 rfl ?_
    refine j_icmp_ge (tgt := 52) (pc' := 13) hκ dX10_turnRound_10 (by decide) rfl (fun c => ?_) (fun c => ?_)
    · replace h := h.1 c
      refine j_sub [] rfl ?_
      exact hK52 _  h
    · replace h := h.2 c
      refine j_aload_n (pc' := 14) hκ 0 rfl rfl dX10_turnRound_13 rfl ?_
      refine jg_11_16 (pc' := 17) hκ (mi inlX10) (fl_in hκ (mc wm_7_23)) dX10_turnRound_14 rfl ?_
      refine j_iload_n (pc' := 18) hκ 1 rfl rfl dX10_turnRound_17 rfl ?_
      refine jm_iald (pc' := 19) hκ (ah_60 g) h.1 dX10_turnRound_18 rfl ?_
      replace h := h.2
      refine j_topi (fun v2 ev2 => ?_)
      replace h := h v2 ev2
      refine j_istore (pc' := 21) (lv' := [(5, .int v2), (0, .ref (g.2.1 11)), (3, .int l3), (4, .int l4)]) hκ (Nat.le_of_ble_eq_true rfl) rfl dX10_turnRound_19 rfl ?_
      refine j_aload_n (pc' := 22) hκ 1 rfl rfl dX10_turnRound_21 rfl ?_
      refine jg_11_16 (pc' := 25) hκ (mi inlX10) (fl_in hκ (mc wm_7_23)) dX10_turnRound_22 rfl ?_
      refine j_iload_n (pc' := 26) hκ 2 rfl rfl dX10_turnRound_25 rfl ?_
      refine j_aload_n (pc' := 27) hκ 1 rfl rfl dX10_turnRound_26 rfl ?_
      refine jg_11_16 (pc' := 30) hκ (mi inlX10) (fl_in hκ (mc wm_7_23)) dX10_turnRound_27 rfl ?_
      refine j_iload (pc' := 32) hκ 3 rfl dX10_turnRound_30 rfl ?_
      refine jm_iald (pc' := 33) hκ (ah_60 g) h.1 dX10_turnRound_32 rfl ?_
      replace h := h.2
      refine jm_iast (pc' := 34) hκ (ah_60 g) h.1 dX10_turnRound_33 rfl ?_
      replace h := h.2
      refine j_nmM (fun M3 eM3 => ?_)
      replace h := h M3 eM3
      refine j_aload_n (pc' := 35) hκ 1 rfl rfl dX10_turnRound_34 rfl ?_
      refine jg_11_16 (pc' := 38) hκ (mi inlX10) (fl_in hκ (mc wm_7_23)) dX10_turnRound_35 rfl ?_
      refine j_iload (pc' := 40) hκ 3 rfl dX10_turnRound_38 rfl ?_
      refine j_iload (pc' := 42) hκ 0 rfl dX10_turnRound_40 rfl ?_
      refine jm_iast (pc' := 43) hκ (ah_60 g) h.1 dX10_turnRound_42 rfl ?_
      replace h := h.2
      refine j_nmM (fun M4 eM4 => ?_)
      replace h := h M4 eM4
      refine j_iinc (pc' := 46) (v := l3 + 1) (lv' := [(3, .int (l3 + 1)), (5, .int v2), (0, .ref (g.2.1 11)), (4, .int l4)]) hκ 2 rfl rfl (Nat.le_of_ble_eq_true rfl) rfl dX10_turnRound_43 rfl ?_
      refine j_iinc (pc' := 49) (v := l4 + (-1)) (lv' := [(4, .int (l4 + (-1))), (3, .int (l3 + 1)), (5, .int v2), (0, .ref (g.2.1 11))]) hκ 3 rfl (congrArg (fun z => l4 + z) (by decide)) (Nat.le_of_ble_eq_true rfl) rfl dX10_turnRound_46 rfl ?_
      refine j_goto (pc' := 7) hκ (by decide) dX10_turnRound_49 ?_
      refine j_sub [3, 1, 0] rfl ?_
      exact ih _ _ _  h
def wp_m_turnRound (M : ST) (p1 : Int32) (p2 : Int32) (post : ST → Prop) : Prop :=
  ∀ v1 : Int32, v1 = p1 + 1 → ∃ n, wp_m_turnRound_7 (fun M5 => post M5) post n M v1 p2
set_option maxHeartbeats 4000000 in
set_option maxRecDepth 100000 in
theorem lb_m_turnRound {κ : Cx} {g : Gx} {X : ST} (hκ : CF κ g RX10 cX10_turnRound wq_X10_turnRound 6 rm_m_turnRound) {post : ST → Prop} (hR : RtmV κ g 6 cX10_turnRound X post) {M : ST} {p1 : Int32} {p2 : Int32} (h : wp_m_turnRound M p1 p2 post) : Jw κ g 6 X M [(0, .ref (g.2.1 11)), (1, .int p1), (2, .int p2)] 0 [] := by
  unfold wp_m_turnRound at h
  refine j_iload_n (pc' := 1) hκ 1 rfl rfl dX10_turnRound_0 rfl ?_
  refine j_iconst (pc' := 2) (v := 1) hκ (by decide) dX10_turnRound_1 rfl ?_
  refine j_iadd (pc' := 3) hκ dX10_turnRound_2 rfl ?_
  refine j_topi (fun v1 ev1 => ?_)
  replace h := h v1 ev1
  refine j_istore_n (pc' := 4) (lv' := [(3, .int v1), (0, .ref (g.2.1 11)), (1, .int p1), (2, .int p2)]) hκ (Nat.le_of_ble_eq_true rfl) rfl rfl dX10_turnRound_3 rfl ?_
  refine j_iload_n (pc' := 5) hκ 3 rfl rfl dX10_turnRound_4 rfl ?_
  refine j_istore (pc' := 7) (lv' := [(4, .int p2), (3, .int v1), (0, .ref (g.2.1 11)), (1, .int p1), (2, .int p2)]) hκ (Nat.le_of_ble_eq_true rfl) rfl dX10_turnRound_5 rfl ?_
  obtain ⟨n, h⟩ := h
  refine j_sub [2, 1, 0] rfl ?_
  refine lb_m_turnRound_7 hκ hR ?_ n _ _ _  h
  intro M5  h
  exact hR _ _ _ dX10_turnRound_52 h
theorem c_m_turnRound {g : Gx} (hg : Dg g) {X M : ST} {p1 : Int32} {p2 : Int32} {post : ST → Prop} (h : wp_m_turnRound M p1 p2 post) (l : Launch) : Met l yX10_turnRound wq_X10_turnRound rm_m_turnRound (va_Pc [.ref (g.2.1 11), .int p1, .int p2] (PU g X M)) (va_Qv post (fun Y t => va_P g.1 vwCl (ww g X Y) t.heap) (wA g)) 0 0 (wA g) :=
  met_mv hg (by decide) rfl [.ref (g.2.1 11), .int p1, .int p2] rfl (Nat.le_of_ble_eq_true rfl) (fun κ hκ hR => lb_m_turnRound hκ hR h) l
theorem wm_30_9 : Cond.methodLink RX10 189 yX10_turnRound ∈ wAll := inr_30 (List.mem_of_getElem? (i := 9) rfl)
theorem wm_30_10 : Cond.instanceMethod yX10_turnRound ∈ wAll := inr_30 (List.mem_of_getElem? (i := 10) rfl)
theorem wm_30_11 : Cond.selects RX10 yX10_turnRound yX10_turnRound ∈ wAll := inr_30 (List.mem_of_getElem? (i := 11) rfl)
theorem wm_30_12 : Cond.code yX10_turnRound cX10_turnRound 6 none ∈ wAll := inr_30 (List.mem_of_getElem? (i := 12) rfl)
theorem hqV_X10_turnRound : yX10_turnRound.cls = RX10 ∧ yX10_turnRound.cls ≠ "java/lang/invoke/MethodHandle" ∧ yX10_turnRound.cls ≠ "java/lang/invoke/VarHandle" ∧ (parseMethodDescriptor yX10_turnRound.desc).map (fun d => d.parameters.length) = some 2 := by decide +kernel
abbrev rm_m_turn : Room := { frames := 2, cells := 0, slots := 0, locals := 42 }
def wp_m_turn (M : ST) (p1 : Int32) (p2 : Int32) (post : Int32 → ST → Prop) : Prop :=
  wp_m_isWhole M (fun r2 M1 => (¬ r2 = 0 → ((p1 < 0 → (post (-1) M1)) ∧ (¬ p1 < 0 → ((p2 ≤ p1 → (post (-1) M1)) ∧ (¬ p2 ≤ p1 → ((p2 < (m_told M1) → (wp_m_turnRound M1 p1 p2 (fun M3 => post 1 M3))) ∧ (¬ p2 < (m_told M1) → (post (-1) M1)))))))) ∧ (r2 = 0 → (post (-4) M1)))
set_option maxHeartbeats 4000000 in
set_option maxRecDepth 100000 in
theorem lb_m_turn {κ : Cx} {g : Gx} {X : ST} (hκ : CF κ g RX10 cX10_turn wq_X10_turn 3 rm_m_turn) {post : Int32 → ST → Prop} (hR : RtmI κ g 3 cX10_turn X post) {M : ST} {p1 : Int32} {p2 : Int32} (h : wp_m_turn M p1 p2 post) : Jw κ g 3 X M [(0, .ref (g.2.1 11)), (1, .int p1), (2, .int p2)] 0 [] := by
  unfold wp_m_turn at h
  refine j_aload_n (pc' := 1) hκ 0 rfl rfl dX10_turn_0 rfl ?_
  refine jm_callVi (pc' := 4) hκ (c_m_isWhole (dg hκ) h) rfl rfl rfl (gV wm_26_12 wm_26_13 wm_26_14 wm_1_5 wm_26_15) hqV_X10_isWhole ⟨Nat.le_of_ble_eq_true rfl, Nat.le_of_ble_eq_true rfl⟩ (wg_11 g _ _) rfl rfl rfl (Nat.le_of_ble_eq_true rfl) dX10_turn_1 rfl (fun r2 M1 h => ?_)
  refine j_if_ne (tgt := 10) (pc' := 7) hκ dX10_turn_4 (by decide) rfl (fun c => ?_) (fun c => ?_)
  · replace h := h.1 c
    refine j_iload_n (pc' := 11) hκ 1 rfl rfl dX10_turn_10 rfl ?_
    refine j_if_lt (tgt := 27) (pc' := 14) hκ dX10_turn_11 (by decide) rfl (fun c => ?_) (fun c => ?_)
    · replace h := h.1 c
      refine j_iconst (pc' := 28) (v := (-1)) hκ (by decide) dX10_turn_27 rfl ?_
      exact hR _ _ _ _ dX10_turn_28 h
    · replace h := h.2 c
      refine j_iload_n (pc' := 15) hκ 2 rfl rfl dX10_turn_14 rfl ?_
      refine j_iload_n (pc' := 16) hκ 1 rfl rfl dX10_turn_15 rfl ?_
      refine j_icmp_le (tgt := 27) (pc' := 19) hκ dX10_turn_16 (by decide) rfl (fun c => ?_) (fun c => ?_)
      · replace h := h.1 c
        refine j_iconst (pc' := 28) (v := (-1)) hκ (by decide) dX10_turn_27 rfl ?_
        exact hR _ _ _ _ dX10_turn_28 h
      · replace h := h.2 c
        refine j_iload_n (pc' := 20) hκ 2 rfl rfl dX10_turn_19 rfl ?_
        refine j_aload_n (pc' := 21) hκ 0 rfl rfl dX10_turn_20 rfl ?_
        refine jg_11_15 (pc' := 24) hκ (mi inlX10) (fl_in hκ (mc wm_10_8)) dX10_turn_21 rfl ?_
        refine j_icmp_lt (tgt := 29) (pc' := 27) hκ dX10_turn_24 (by decide) rfl (fun c => ?_) (fun c => ?_)
        · replace h := h.1 c
          refine j_aload_n (pc' := 30) hκ 0 rfl rfl dX10_turn_29 rfl ?_
          refine j_iload_n (pc' := 31) hκ 1 rfl rfl dX10_turn_30 rfl ?_
          refine j_iload_n (pc' := 32) hκ 2 rfl rfl dX10_turn_31 rfl ?_
          refine jm_callVv (pc' := 35) hκ (c_m_turnRound (dg hκ) h) rfl rfl rfl (gV wm_30_9 wm_30_10 wm_30_11 wm_1_5 wm_30_12) hqV_X10_turnRound ⟨Nat.le_of_ble_eq_true rfl, Nat.le_of_ble_eq_true rfl⟩ (wg_11 g _ _) rfl rfl rfl (Nat.le_of_ble_eq_true rfl) dX10_turn_32 rfl (fun M3 h => ?_)
          refine j_iconst (pc' := 36) (v := 1) hκ (by decide) dX10_turn_35 rfl ?_
          exact hR _ _ _ _ dX10_turn_36 h
        · replace h := h.2 c
          refine j_iconst (pc' := 28) (v := (-1)) hκ (by decide) dX10_turn_27 rfl ?_
          exact hR _ _ _ _ dX10_turn_28 h
  · replace h := h.2 c
    refine j_bipush (pc' := 9) (v := (-4)) hκ (by decide) dX10_turn_7 rfl ?_
    exact hR _ _ _ _ dX10_turn_9 h
theorem c_m_turn {g : Gx} (hg : Dg g) {X M : ST} {p1 : Int32} {p2 : Int32} {post : Int32 → ST → Prop} (h : wp_m_turn M p1 p2 post) (l : Launch) : Met l yX10_turn wq_X10_turn rm_m_turn (va_Pc [.ref (g.2.1 11), .int p1, .int p2] (PU g X M)) (va_Qi post (fun Y t => va_P g.1 vwCl (ww g X Y) t.heap) (wA g)) 0 0 (wA g) :=
  met_mi hg (by decide) rfl [.ref (g.2.1 11), .int p1, .int p2] rfl (Nat.le_of_ble_eq_true rfl) (fun κ hκ hR => lb_m_turn hκ hR h) l
theorem wm_31_7 : Cond.methodLink RX10 192 yX10_length ∈ wAll := inr_31 (List.mem_of_getElem? (i := 7) rfl)
theorem wm_29_6 : Cond.instanceMethod yX10_length ∈ wAll := inr_29 (List.mem_of_getElem? (i := 6) rfl)
theorem wm_29_7 : Cond.selects RX10 yX10_length yX10_length ∈ wAll := inr_29 (List.mem_of_getElem? (i := 7) rfl)
theorem wm_29_8 : Cond.code yX10_length cX10_length 2 (some .int) ∈ wAll := inr_29 (List.mem_of_getElem? (i := 8) rfl)
theorem hqV_X10_length : yX10_length.cls = RX10 ∧ yX10_length.cls ≠ "java/lang/invoke/MethodHandle" ∧ yX10_length.cls ≠ "java/lang/invoke/VarHandle" ∧ (parseMethodDescriptor yX10_length.desc).map (fun d => d.parameters.length) = some 0 := by decide +kernel
abbrev rm_m_betters : Room := { frames := 3, cells := 0, slots := 0, locals := 73 }
def wp_m_betters_41_s (K92 : ST → Prop) (K107 : ST → Int32 → Int32 → Int32 → Prop) (post : Int32 → ST → Prop) (rec : ST → Int32 → Int32 → Int32 → Int32 → Prop) (M : ST) (l1 : Int32) (l2 : Int32) (l3 : Int32) (l4 : Int32) : Prop :=
  ((m_told M) ≤ l4 → (K107 M l1 l2 l3)) ∧ (¬ (m_told M) ≤ l4 → (wp_m_turnRound M l3 l4 (fun M6 => wp_m_lengthOf M6 60 12 (m_told M6) (fun r9 M8 => (l1 ≤ r9 → (wp_m_turnRound M8 l3 l4 (fun M10 => rec M10 l1 l2 l3 (l4 + 1)))) ∧ (¬ l1 ≤ r9 → ((l2 = 0 → (K92 M8)) ∧ (¬ l2 = 0 → (wp_m_keepsTwins M8 60 12 (m_told M8) (fun r13 M12 => (r13 = 0 → (wp_m_turnRound M12 l3 l4 (fun M14 => rec M14 l1 l2 l3 (l4 + 1)))) ∧ (¬ r13 = 0 → (K92 M12)))))))))))
def wp_m_betters_41 (K92 : ST → Prop) (K107 : ST → Int32 → Int32 → Int32 → Prop) (post : Int32 → ST → Prop) : Nat → ST → Int32 → Int32 → Int32 → Int32 → Prop
  | 0 => fun _ _ _ _ _ => False
  | n + 1 => wp_m_betters_41_s K92 K107 post (wp_m_betters_41 K92 K107 post n)
set_option maxHeartbeats 4000000 in
set_option maxRecDepth 100000 in
theorem lb_m_betters_41 {κ : Cx} {g : Gx} {X : ST} (hκ : CF κ g RX10 cX10_betters wq_X10_betters 5 rm_m_betters) {post : Int32 → ST → Prop} (hR : RtmZ κ g 5 cX10_betters X post) {K92 : ST → Prop} {K107 : ST → Int32 → Int32 → Int32 → Prop} (hK92 : ∀ (M : ST), K92 M → Jw κ g 5 X M [] 92 []) (hK107 : ∀ (M : ST) (l1 : Int32) (l2 : Int32) (l3 : Int32), K107 M l1 l2 l3 → Jw κ g 5 X M [(0, .ref (g.2.1 11)), (1, .int l1), (2, .int l2), (3, .int l3)] 107 []) : ∀ (n : Nat) (M : ST) (l1 : Int32) (l2 : Int32) (l3 : Int32) (l4 : Int32), wp_m_betters_41 K92 K107 post n M l1 l2 l3 l4 → Jw κ g 5 X M [(0, .ref (g.2.1 11)), (1, .int l1), (2, .int l2), (3, .int l3), (4, .int l4)] 41 [] := by
  intro n
  induction n with
  | zero =>
    intro M l1 l2 l3 l4  h
    exact h.elim
  | succ n ih =>
    intro M l1 l2 l3 l4  h
    have h : wp_m_betters_41_s K92 K107 post (wp_m_betters_41 K92 K107 post n) M l1 l2 l3 l4 := h
    unfold wp_m_betters_41_s at h
    refine j_iload (pc' := 43) hκ 4 rfl dX10_betters_41 rfl ?_
    refine j_aload_n (pc' := 44) hκ 0 rfl rfl dX10_betters_43 rfl ?_
    refine jg_11_15 (pc' := 47) hκ (mi inlX10) (fl_in hκ (mc wm_10_8)) dX10_betters_44 rfl ?_
    refine j_icmp_ge (tgt := 107) (pc' := 50) hκ dX10_betters_47 (by decide) rfl (fun c => ?_) (fun c => ?_)
    · replace h := h.1 c
      refine j_sub [0, 1, 2, 3] rfl ?_
      exact hK107 _ _ _ _  h
    · replace h := h.2 c
      refine j_aload_n (pc' := 51) hκ 0 rfl rfl dX10_betters_50 rfl ?_
      refine j_iload_n (pc' := 52) hκ 3 rfl rfl dX10_betters_51 rfl ?_
      refine j_iload (pc' := 54) hκ 4 rfl dX10_betters_52 rfl ?_
      refine jm_callVv (pc' := 57) hκ (c_m_turnRound (dg hκ) h) rfl rfl rfl (gV wm_30_9 wm_30_10 wm_30_11 wm_1_5 wm_30_12) hqV_X10_turnRound ⟨Nat.le_of_ble_eq_true rfl, Nat.le_of_ble_eq_true rfl⟩ (wg_11 g _ _) rfl rfl rfl (Nat.le_of_ble_eq_true rfl) dX10_betters_54 rfl (fun M6 h => ?_)
      refine j_aload_n (pc' := 58) hκ 0 rfl rfl dX10_betters_57 rfl ?_
      refine j_aload_n (pc' := 59) hκ 0 rfl rfl dX10_betters_58 rfl ?_
      refine jg_11_16 (pc' := 62) hκ (mi inlX10) (fl_in hκ (mc wm_7_23)) dX10_betters_59 rfl ?_
      refine j_aload_n (pc' := 63) hκ 0 rfl rfl dX10_betters_62 rfl ?_
      refine jg_11_15 (pc' := 66) hκ (mi inlX10) (fl_in hκ (mc wm_10_8)) dX10_betters_63 rfl ?_
      refine jm_callVi (pc' := 69) hκ (c_m_lengthOf (dg hκ) (ah_60 g) h) rfl rfl rfl (gV wm_24_9 wm_24_10 wm_24_11 wm_1_5 wm_24_12) hqV_X10_lengthOf ⟨Nat.le_of_ble_eq_true rfl, Nat.le_of_ble_eq_true rfl⟩ (wg_11 g _ _) rfl rfl rfl (Nat.le_of_ble_eq_true rfl) dX10_betters_66 rfl (fun r9 M8 h => ?_)
      refine j_iload_n (pc' := 70) hκ 1 rfl rfl dX10_betters_69 rfl ?_
      refine j_icmp_ge (tgt := 94) (pc' := 73) hκ dX10_betters_70 (by decide) rfl (fun c => ?_) (fun c => ?_)
      · replace h := h.1 c
        refine j_aload_n (pc' := 95) hκ 0 rfl rfl dX10_betters_94 rfl ?_
        refine j_iload_n (pc' := 96) hκ 3 rfl rfl dX10_betters_95 rfl ?_
        refine j_iload (pc' := 98) hκ 4 rfl dX10_betters_96 rfl ?_
        refine jm_callVv (pc' := 101) hκ (c_m_turnRound (dg hκ) h) rfl rfl rfl (gV wm_30_9 wm_30_10 wm_30_11 wm_1_5 wm_30_12) hqV_X10_turnRound ⟨Nat.le_of_ble_eq_true rfl, Nat.le_of_ble_eq_true rfl⟩ (wg_11 g _ _) rfl rfl rfl (Nat.le_of_ble_eq_true rfl) dX10_betters_98 rfl (fun M10 h => ?_)
        refine j_iinc (pc' := 104) (v := l4 + 1) (lv' := [(4, .int (l4 + 1)), (0, .ref (g.2.1 11)), (1, .int l1), (2, .int l2), (3, .int l3)]) hκ 4 rfl rfl (Nat.le_of_ble_eq_true rfl) rfl dX10_betters_101 rfl ?_
        refine j_goto (pc' := 41) hκ (by decide) dX10_betters_104 ?_
        refine j_sub [1, 2, 3, 4, 0] rfl ?_
        exact ih _ _ _ _ _  h
      · replace h := h.2 c
        refine j_iload_n (pc' := 74) hκ 2 rfl rfl dX10_betters_73 rfl ?_
        refine j_if_eq (tgt := 92) (pc' := 77) hκ dX10_betters_74 (by decide) rfl (fun c => ?_) (fun c => ?_)
        · replace h := h.1 c
          refine j_sub [] rfl ?_
          exact hK92 _  h
        · replace h := h.2 c
          refine j_aload_n (pc' := 78) hκ 0 rfl rfl dX10_betters_77 rfl ?_
          refine j_aload_n (pc' := 79) hκ 0 rfl rfl dX10_betters_78 rfl ?_
          refine jg_11_16 (pc' := 82) hκ (mi inlX10) (fl_in hκ (mc wm_7_23)) dX10_betters_79 rfl ?_
          refine j_aload_n (pc' := 83) hκ 0 rfl rfl dX10_betters_82 rfl ?_
          refine jg_11_15 (pc' := 86) hκ (mi inlX10) (fl_in hκ (mc wm_10_8)) dX10_betters_83 rfl ?_
          refine jm_callVi (pc' := 89) hκ (c_m_keepsTwins (dg hκ) (ah_60 g) h) rfl rfl rfl (gV wm_24_13 wm_24_14 wm_24_15 wm_1_5 wm_24_16) hqV_X10_keepsTwins ⟨Nat.le_of_ble_eq_true rfl, Nat.le_of_ble_eq_true rfl⟩ (wg_11 g _ _) rfl rfl rfl (Nat.le_of_ble_eq_true rfl) dX10_betters_86 rfl (fun r13 M12 h => ?_)
          refine j_if_eq (tgt := 94) (pc' := 92) hκ dX10_betters_89 (by decide) rfl (fun c => ?_) (fun c => ?_)
          · replace h := h.1 c
            refine j_aload_n (pc' := 95) hκ 0 rfl rfl dX10_betters_94 rfl ?_
            refine j_iload_n (pc' := 96) hκ 3 rfl rfl dX10_betters_95 rfl ?_
            refine j_iload (pc' := 98) hκ 4 rfl dX10_betters_96 rfl ?_
            refine jm_callVv (pc' := 101) hκ (c_m_turnRound (dg hκ) h) rfl rfl rfl (gV wm_30_9 wm_30_10 wm_30_11 wm_1_5 wm_30_12) hqV_X10_turnRound ⟨Nat.le_of_ble_eq_true rfl, Nat.le_of_ble_eq_true rfl⟩ (wg_11 g _ _) rfl rfl rfl (Nat.le_of_ble_eq_true rfl) dX10_betters_98 rfl (fun M14 h => ?_)
            refine j_iinc (pc' := 104) (v := l4 + 1) (lv' := [(4, .int (l4 + 1)), (0, .ref (g.2.1 11)), (1, .int l1), (2, .int l2), (3, .int l3)]) hκ 4 rfl rfl (Nat.le_of_ble_eq_true rfl) rfl dX10_betters_101 rfl ?_
            refine j_goto (pc' := 41) hκ (by decide) dX10_betters_104 ?_
            refine j_sub [1, 2, 3, 4, 0] rfl ?_
            exact ih _ _ _ _ _  h
          · replace h := h.2 c
            refine j_sub [] rfl ?_
            exact hK92 _  h
def wp_m_betters_28_s (K92 : ST → Prop) (K113 : ST → Prop) (post : Int32 → ST → Prop) (rec : ST → Int32 → Int32 → Int32 → Prop) (M : ST) (l1 : Int32) (l2 : Int32) (l3 : Int32) : Prop :=
  ((m_told M) ≤ l3 → (K113 M)) ∧ (¬ (m_told M) ≤ l3 → (∀ v5 : Int32, v5 = l3 + 1 → ∃ n, wp_m_betters_41 K92 (fun M16 v17 v18 v19 => rec M16 v17 v18 (v19 + 1)) post n M l1 l2 l3 v5))
def wp_m_betters_28 (K92 : ST → Prop) (K113 : ST → Prop) (post : Int32 → ST → Prop) : Nat → ST → Int32 → Int32 → Int32 → Prop
  | 0 => fun _ _ _ _ => False
  | n + 1 => wp_m_betters_28_s K92 K113 post (wp_m_betters_28 K92 K113 post n)
set_option maxHeartbeats 4000000 in
set_option maxRecDepth 100000 in
theorem lb_m_betters_28 {κ : Cx} {g : Gx} {X : ST} (hκ : CF κ g RX10 cX10_betters wq_X10_betters 5 rm_m_betters) {post : Int32 → ST → Prop} (hR : RtmZ κ g 5 cX10_betters X post) {K92 : ST → Prop} {K113 : ST → Prop} (hK92 : ∀ (M : ST), K92 M → Jw κ g 5 X M [] 92 []) (hK113 : ∀ (M : ST), K113 M → Jw κ g 5 X M [] 113 []) : ∀ (n : Nat) (M : ST) (l1 : Int32) (l2 : Int32) (l3 : Int32), wp_m_betters_28 K92 K113 post n M l1 l2 l3 → Jw κ g 5 X M [(0, .ref (g.2.1 11)), (1, .int l1), (2, .int l2), (3, .int l3)] 28 [] := by
  intro n
  induction n with
  | zero =>
    intro M l1 l2 l3  h
    exact h.elim
  | succ n ih =>
    intro M l1 l2 l3  h
    have h : wp_m_betters_28_s K92 K113 post (wp_m_betters_28 K92 K113 post n) M l1 l2 l3 := h
    unfold wp_m_betters_28_s at h
    refine j_iload_n (pc' := 29) hκ 3 rfl rfl dX10_betters_28 rfl ?_
    refine j_aload_n (pc' := 30) hκ 0 rfl rfl dX10_betters_29 rfl ?_
    refine jg_11_15 (pc' := 33) hκ (mi inlX10) (fl_in hκ (mc wm_10_8)) dX10_betters_30 rfl ?_
    refine j_icmp_ge (tgt := 113) (pc' := 36) hκ dX10_betters_33 (by decide) rfl (fun c => ?_) (fun c => ?_)
    · replace h := h.1 c
      refine j_sub [] rfl ?_
      exact hK113 _  h
    · replace h := h.2 c
      refine j_iload_n (pc' := 37) hκ 3 rfl rfl dX10_betters_36 rfl ?_
      refine j_iconst (pc' := 38) (v := 1) hκ (by decide) dX10_betters_37 rfl ?_
      refine j_iadd (pc' := 39) hκ dX10_betters_38 rfl ?_
      refine j_topi (fun v5 ev5 => ?_)
      replace h := h v5 ev5
      refine j_istore (pc' := 41) (lv' := [(4, .int v5), (0, .ref (g.2.1 11)), (1, .int l1), (2, .int l2), (3, .int l3)]) hκ (Nat.le_of_ble_eq_true rfl) rfl dX10_betters_39 rfl ?_
      obtain ⟨n, h⟩ := h
      refine j_sub [1, 2, 3, 4, 0] rfl ?_
      refine lb_m_betters_41 hκ hR hK92 ?_ n _ _ _ _ _  h
      intro M16 v17 v18 v19  h
      refine j_iinc (pc' := 110) (v := v19 + 1) (lv' := [(3, .int (v19 + 1)), (0, .ref (g.2.1 11)), (1, .int v17), (2, .int v18)]) hκ 3 rfl rfl (Nat.le_of_ble_eq_true rfl) rfl dX10_betters_107 rfl ?_
      refine j_goto (pc' := 28) hκ (by decide) dX10_betters_110 ?_
      refine j_sub [1, 2, 3, 0] rfl ?_
      exact ih _ _ _ _  h
def wp_m_betters (M : ST) (post : Int32 → ST → Prop) : Prop :=
  wp_m_lengthOf M 60 12 (m_told M) (fun r2 M1 => wp_m_keepsTwins M1 60 12 (m_told M1) (fun r4 M3 => ∃ n, wp_m_betters_28 (fun M20 => post 1 M20) (fun M21 => post 0 M21) post n M3 r2 r4 0))
set_option maxHeartbeats 4000000 in
set_option maxRecDepth 100000 in
theorem lb_m_betters {κ : Cx} {g : Gx} {X : ST} (hκ : CF κ g RX10 cX10_betters wq_X10_betters 5 rm_m_betters) {post : Int32 → ST → Prop} (hR : RtmZ κ g 5 cX10_betters X post) {M : ST} (h : wp_m_betters M post) : Jw κ g 5 X M [(0, .ref (g.2.1 11))] 0 [] := by
  unfold wp_m_betters at h
  refine j_aload_n (pc' := 1) hκ 0 rfl rfl dX10_betters_0 rfl ?_
  refine j_aload_n (pc' := 2) hκ 0 rfl rfl dX10_betters_1 rfl ?_
  refine jg_11_16 (pc' := 5) hκ (mi inlX10) (fl_in hκ (mc wm_7_23)) dX10_betters_2 rfl ?_
  refine j_aload_n (pc' := 6) hκ 0 rfl rfl dX10_betters_5 rfl ?_
  refine jg_11_15 (pc' := 9) hκ (mi inlX10) (fl_in hκ (mc wm_10_8)) dX10_betters_6 rfl ?_
  refine jm_callVi (pc' := 12) hκ (c_m_lengthOf (dg hκ) (ah_60 g) h) rfl rfl rfl (gV wm_24_9 wm_24_10 wm_24_11 wm_1_5 wm_24_12) hqV_X10_lengthOf ⟨Nat.le_of_ble_eq_true rfl, Nat.le_of_ble_eq_true rfl⟩ (wg_11 g _ _) rfl rfl rfl (Nat.le_of_ble_eq_true rfl) dX10_betters_9 rfl (fun r2 M1 h => ?_)
  refine j_istore_n (pc' := 13) (lv' := [(1, .int r2), (0, .ref (g.2.1 11))]) hκ (Nat.le_of_ble_eq_true rfl) rfl rfl dX10_betters_12 rfl ?_
  refine j_aload_n (pc' := 14) hκ 1 rfl rfl dX10_betters_13 rfl ?_
  refine j_aload_n (pc' := 15) hκ 1 rfl rfl dX10_betters_14 rfl ?_
  refine jg_11_16 (pc' := 18) hκ (mi inlX10) (fl_in hκ (mc wm_7_23)) dX10_betters_15 rfl ?_
  refine j_aload_n (pc' := 19) hκ 1 rfl rfl dX10_betters_18 rfl ?_
  refine jg_11_15 (pc' := 22) hκ (mi inlX10) (fl_in hκ (mc wm_10_8)) dX10_betters_19 rfl ?_
  refine jm_callVi (pc' := 25) hκ (c_m_keepsTwins (dg hκ) (ah_60 g) h) rfl rfl rfl (gV wm_24_13 wm_24_14 wm_24_15 wm_1_5 wm_24_16) hqV_X10_keepsTwins ⟨Nat.le_of_ble_eq_true rfl, Nat.le_of_ble_eq_true rfl⟩ (wg_11 g _ _) rfl rfl rfl (Nat.le_of_ble_eq_true rfl) dX10_betters_22 rfl (fun r4 M3 h => ?_)
  refine j_istore_n (pc' := 26) (lv' := [(2, .int r4), (1, .int r2), (0, .ref (g.2.1 11))]) hκ (Nat.le_of_ble_eq_true rfl) rfl rfl dX10_betters_25 rfl ?_
  refine j_iconst (pc' := 27) (v := 0) hκ (by decide) dX10_betters_26 rfl ?_
  refine j_istore_n (pc' := 28) (lv' := [(3, .int 0), (2, .int r4), (1, .int r2), (0, .ref (g.2.1 11))]) hκ (Nat.le_of_ble_eq_true rfl) rfl rfl dX10_betters_27 rfl ?_
  obtain ⟨n, h⟩ := h
  refine j_sub [3, 2, 1, 0] rfl ?_
  refine lb_m_betters_28 hκ hR ?_ ?_ n _ _ _ _  h
  · intro M20  h
    refine j_iconst (pc' := 93) (v := 1) hκ (by decide) dX10_betters_92 rfl ?_
    exact hR _ _ _ _ dX10_betters_93 (Or.inr rfl) h
  · intro M21  h
    refine j_iconst (pc' := 114) (v := 0) hκ (by decide) dX10_betters_113 rfl ?_
    exact hR _ _ _ _ dX10_betters_114 (Or.inl rfl) h
theorem c_m_betters {g : Gx} (hg : Dg g) {X M : ST} {post : Int32 → ST → Prop} (h : wp_m_betters M post) (l : Launch) : Met l yX10_betters wq_X10_betters rm_m_betters (va_Pc [.ref (g.2.1 11)] (PU g X M)) (va_Qi post (fun Y t => va_P g.1 vwCl (ww g X Y) t.heap) (wA g)) 0 0 (wA g) :=
  met_mz hg (by decide) rfl [.ref (g.2.1 11)] rfl (Nat.le_of_ble_eq_true rfl) (fun κ hκ hR => lb_m_betters hκ hR h) l
theorem wm_31_8 : Cond.methodLink RX10 194 yX10_betters ∈ wAll := inr_31 (List.mem_of_getElem? (i := 8) rfl)
theorem wm_31_9 : Cond.instanceMethod yX10_betters ∈ wAll := inr_31 (List.mem_of_getElem? (i := 9) rfl)
theorem wm_31_10 : Cond.selects RX10 yX10_betters yX10_betters ∈ wAll := inr_31 (List.mem_of_getElem? (i := 10) rfl)
theorem wm_31_11 : Cond.code yX10_betters cX10_betters 5 (some .boolean) ∈ wAll := inr_31 (List.mem_of_getElem? (i := 11) rfl)
theorem hqV_X10_betters : yX10_betters.cls = RX10 ∧ yX10_betters.cls ≠ "java/lang/invoke/MethodHandle" ∧ yX10_betters.cls ≠ "java/lang/invoke/VarHandle" ∧ (parseMethodDescriptor yX10_betters.desc).map (fun d => d.parameters.length) = some 0 := by decide +kernel
abbrev rm_m_better : Room := { frames := 4, cells := 0, slots := 0, locals := 97 }
def wp_m_better_13_s (K32 : ST → Int32 → Prop) (post : Int32 → ST → Prop) (rec : ST → Int32 → Prop) (M : ST) (l2 : Int32) : Prop :=
  (100 ≤ l2 → (K32 M l2)) ∧ (¬ 100 ≤ l2 → (wp_m_betters M (fun r4 M3 => (r4 = 0 → (K32 M3 l2)) ∧ (¬ r4 = 0 → (rec M3 (l2 + 1))))))
def wp_m_better_13 (K32 : ST → Int32 → Prop) (post : Int32 → ST → Prop) : Nat → ST → Int32 → Prop
  | 0 => fun _ _ => False
  | n + 1 => wp_m_better_13_s K32 post (wp_m_better_13 K32 post n)
set_option maxHeartbeats 4000000 in
set_option maxRecDepth 100000 in
theorem lb_m_better_13 {κ : Cx} {g : Gx} {X : ST} (hκ : CF κ g RX10 cX10_better wq_X10_better 3 rm_m_better) {post : Int32 → ST → Prop} (hR : RtmI κ g 3 cX10_better X post) {K32 : ST → Int32 → Prop} (hK32 : ∀ (M : ST) (l2 : Int32), K32 M l2 → Jw κ g 3 X M [(2, .int l2)] 32 []) : ∀ (n : Nat) (M : ST) (l2 : Int32), wp_m_better_13 K32 post n M l2 → Jw κ g 3 X M [(0, .ref (g.2.1 11)), (2, .int l2)] 13 [] := by
  intro n
  induction n with
  | zero =>
    intro M l2  h
    exact h.elim
  | succ n ih =>
    intro M l2  h
    have h : wp_m_better_13_s K32 post (wp_m_better_13 K32 post n) M l2 := h
    unfold wp_m_better_13_s at h
    refine j_iload_n (pc' := 14) hκ 1 rfl rfl dX10_better_13 rfl ?_
    refine j_bipush (pc' := 16) (v := 100) hκ (by decide) dX10_better_14 rfl ?_
    refine j_icmp_ge (tgt := 32) (pc' := 19) hκ dX10_better_16 (by decide) rfl (fun c => ?_) (fun c => ?_)
    · replace h := h.1 c
      refine j_sub [1] rfl ?_
      exact hK32 _ _  h
    · replace h := h.2 c
      refine j_aload_n (pc' := 20) hκ 0 rfl rfl dX10_better_19 rfl ?_
      refine jm_callVi (pc' := 23) hκ (c_m_betters (dg hκ) h) rfl rfl rfl (gV wm_31_8 wm_31_9 wm_31_10 wm_1_5 wm_31_11) hqV_X10_betters ⟨Nat.le_of_ble_eq_true rfl, Nat.le_of_ble_eq_true rfl⟩ (wg_11 g _ _) rfl rfl rfl (Nat.le_of_ble_eq_true rfl) dX10_better_20 rfl (fun r4 M3 h => ?_)
      refine j_if_eq (tgt := 32) (pc' := 26) hκ dX10_better_23 (by decide) rfl (fun c => ?_) (fun c => ?_)
      · replace h := h.1 c
        refine j_sub [1] rfl ?_
        exact hK32 _ _  h
      · replace h := h.2 c
        refine j_iinc (pc' := 29) (v := l2 + 1) (lv' := [(2, .int (l2 + 1)), (0, .ref (g.2.1 11))]) hκ 1 rfl rfl (Nat.le_of_ble_eq_true rfl) rfl dX10_better_26 rfl ?_
        refine j_goto (pc' := 13) hκ (by decide) dX10_better_29 ?_
        refine j_sub [1, 0] rfl ?_
        exact ih _ _  h
def wp_m_better (M : ST) (post : Int32 → ST → Prop) : Prop :=
  wp_m_length M (fun r2 M1 => (0 ≤ r2 → (∃ n, wp_m_better_13 (fun M5 v6 => post v6 M5) post n M1 0)) ∧ (¬ 0 ≤ r2 → (post r2 M1)))
set_option maxHeartbeats 4000000 in
set_option maxRecDepth 100000 in
theorem lb_m_better {κ : Cx} {g : Gx} {X : ST} (hκ : CF κ g RX10 cX10_better wq_X10_better 3 rm_m_better) {post : Int32 → ST → Prop} (hR : RtmI κ g 3 cX10_better X post) {M : ST} (h : wp_m_better M post) : Jw κ g 3 X M [(0, .ref (g.2.1 11))] 0 [] := by
  unfold wp_m_better at h
  refine j_aload_n (pc' := 1) hκ 0 rfl rfl dX10_better_0 rfl ?_
  refine jm_callVi (pc' := 4) hκ (c_m_length (dg hκ) h) rfl rfl rfl (gV wm_31_7 wm_29_6 wm_29_7 wm_1_5 wm_29_8) hqV_X10_length ⟨Nat.le_of_ble_eq_true rfl, Nat.le_of_ble_eq_true rfl⟩ (wg_11 g _ _) rfl rfl rfl (Nat.le_of_ble_eq_true rfl) dX10_better_1 rfl (fun r2 M1 h => ?_)
  refine j_istore_n (pc' := 5) (lv' := [(1, .int r2), (0, .ref (g.2.1 11))]) hκ (Nat.le_of_ble_eq_true rfl) rfl rfl dX10_better_4 rfl ?_
  refine j_iload_n (pc' := 6) hκ 0 rfl rfl dX10_better_5 rfl ?_
  refine j_if_ge (tgt := 11) (pc' := 9) hκ dX10_better_6 (by decide) rfl (fun c => ?_) (fun c => ?_)
  · replace h := h.1 c
    refine j_iconst (pc' := 12) (v := 0) hκ (by decide) dX10_better_11 rfl ?_
    refine j_istore_n (pc' := 13) (lv' := [(2, .int 0), (1, .int r2), (0, .ref (g.2.1 11))]) hκ (Nat.le_of_ble_eq_true rfl) rfl rfl dX10_better_12 rfl ?_
    obtain ⟨n, h⟩ := h
    refine j_sub [2, 0] rfl ?_
    refine lb_m_better_13 hκ hR ?_ n _ _  h
    intro M5 v6  h
    refine j_iload_n (pc' := 33) hκ 0 rfl rfl dX10_better_32 rfl ?_
    exact hR _ _ _ _ dX10_better_33 h
  · replace h := h.2 c
    refine j_iload_n (pc' := 10) hκ 0 rfl rfl dX10_better_9 rfl ?_
    exact hR _ _ _ _ dX10_better_10 h
theorem c_m_better {g : Gx} (hg : Dg g) {X M : ST} {post : Int32 → ST → Prop} (h : wp_m_better M post) (l : Launch) : Met l yX10_better wq_X10_better rm_m_better (va_Pc [.ref (g.2.1 11)] (PU g X M)) (va_Qi post (fun Y t => va_P g.1 vwCl (ww g X Y) t.heap) (wA g)) 0 0 (wA g) :=
  met_mi hg (by decide) rfl [.ref (g.2.1 11)] rfl (Nat.le_of_ble_eq_true rfl) (fun κ hκ hR => lb_m_better hκ hR h) l
theorem wm_31_22 : Cond.constant RX10 229 (-100000) ∈ wAll := inr_31 (List.mem_of_getElem? (i := 22) rfl)
theorem wm_31_23 : Cond.constant RX10 230 (100000) ∈ wAll := inr_31 (List.mem_of_getElem? (i := 23) rfl)
abbrev rm_m_price : Room := { frames := 1, cells := 0, slots := 0, locals := 21 }
def wp_m_price (M : ST) (p1 : Int32) (p2 : Int32) (post : Int32 → ST → Prop) : Prop :=
  wp_m_isLamp M p1 (fun r2 M1 => (r2 = 0 → (post (-1) M1)) ∧ (¬ r2 = 0 → ((p2 < (-100000) → (post (-1) M1)) ∧ (¬ p2 < (-100000) → ((p2 ≤ 100000 → (vp_in p1 12 ∧ (∀ M3 : ST, M3 = ms_price M1 (upd (m_price M1) p1.toNatClampNeg p2) → post 1 M3))) ∧ (¬ p2 ≤ 100000 → (post (-1) M1)))))))
set_option maxHeartbeats 4000000 in
set_option maxRecDepth 100000 in
theorem lb_m_price {κ : Cx} {g : Gx} {X : ST} (hκ : CF κ g RX10 cX10_price wq_X10_price 3 rm_m_price) {post : Int32 → ST → Prop} (hR : RtmI κ g 3 cX10_price X post) {M : ST} {p1 : Int32} {p2 : Int32} (h : wp_m_price M p1 p2 post) : Jw κ g 3 X M [(0, .ref (g.2.1 11)), (1, .int p1), (2, .int p2)] 0 [] := by
  unfold wp_m_price at h
  refine j_aload_n (pc' := 1) hκ 0 rfl rfl dX10_price_0 rfl ?_
  refine j_iload_n (pc' := 2) hκ 1 rfl rfl dX10_price_1 rfl ?_
  refine jm_callVi (pc' := 5) hκ (c_m_isLamp (dg hκ) h) rfl rfl rfl (gV wm_17_14 wm_17_15 wm_17_16 wm_1_5 wm_17_17) hqV_X10_isLamp ⟨Nat.le_of_ble_eq_true rfl, Nat.le_of_ble_eq_true rfl⟩ (wg_11 g _ _) rfl rfl rfl (Nat.le_of_ble_eq_true rfl) dX10_price_2 rfl (fun r2 M1 h => ?_)
  refine j_if_eq (tgt := 20) (pc' := 8) hκ dX10_price_5 (by decide) rfl (fun c => ?_) (fun c => ?_)
  · replace h := h.1 c
    refine j_iconst (pc' := 21) (v := (-1)) hκ (by decide) dX10_price_20 rfl ?_
    exact hR _ _ _ _ dX10_price_21 h
  · replace h := h.2 c
    refine j_iload_n (pc' := 9) hκ 2 rfl rfl dX10_price_8 rfl ?_
    refine j_ldc (pc' := 11) hκ (mc wm_31_22) dX10_price_9 rfl ?_
    refine j_icmp_lt (tgt := 20) (pc' := 14) hκ dX10_price_11 (by decide) rfl (fun c => ?_) (fun c => ?_)
    · replace h := h.1 c
      refine j_iconst (pc' := 21) (v := (-1)) hκ (by decide) dX10_price_20 rfl ?_
      exact hR _ _ _ _ dX10_price_21 h
    · replace h := h.2 c
      refine j_iload_n (pc' := 15) hκ 2 rfl rfl dX10_price_14 rfl ?_
      refine j_ldc (pc' := 17) hκ (mc wm_31_23) dX10_price_15 rfl ?_
      refine j_icmp_le (tgt := 22) (pc' := 20) hκ dX10_price_17 (by decide) rfl (fun c => ?_) (fun c => ?_)
      · replace h := h.1 c
        refine j_aload_n (pc' := 23) hκ 0 rfl rfl dX10_price_22 rfl ?_
        refine jg_11_14 (pc' := 26) hκ (mi inlX10) (fl_in hκ (mc wm_7_22)) dX10_price_23 rfl ?_
        refine j_iload_n (pc' := 27) hκ 1 rfl rfl dX10_price_26 rfl ?_
        refine j_iload_n (pc' := 28) hκ 2 rfl rfl dX10_price_27 rfl ?_
        refine jm_iast (pc' := 29) hκ (ah_59 g) h.1 dX10_price_28 rfl ?_
        replace h := h.2
        refine j_nmM (fun M3 eM3 => ?_)
        replace h := h M3 eM3
        refine j_iconst (pc' := 30) (v := 1) hκ (by decide) dX10_price_29 rfl ?_
        exact hR _ _ _ _ dX10_price_30 h
      · replace h := h.2 c
        refine j_iconst (pc' := 21) (v := (-1)) hκ (by decide) dX10_price_20 rfl ?_
        exact hR _ _ _ _ dX10_price_21 h
theorem c_m_price {g : Gx} (hg : Dg g) {X M : ST} {p1 : Int32} {p2 : Int32} {post : Int32 → ST → Prop} (h : wp_m_price M p1 p2 post) (l : Launch) : Met l yX10_price wq_X10_price rm_m_price (va_Pc [.ref (g.2.1 11), .int p1, .int p2] (PU g X M)) (va_Qi post (fun Y t => va_P g.1 vwCl (ww g X Y) t.heap) (wA g)) 0 0 (wA g) :=
  met_mi hg (by decide) rfl [.ref (g.2.1 11), .int p1, .int p2] rfl (Nat.le_of_ble_eq_true rfl) (fun κ hκ hR => lb_m_price hκ hR h) l
theorem wm_8_6 : Cond.fieldLink RX10 72 "LampRoundModel" "pairs" "[I" ∈ wAll := inr_8 (List.mem_of_getElem? (i := 6) rfl)
abbrev rm_m_freeAll : Room := { frames := 0, cells := 0, slots := 0, locals := 0 }
def wp_m_freeAll_2_s (K22 : ST → Prop) (post : ST → Prop) (rec : ST → Int32 → Prop) (M : ST) (l1 : Int32) : Prop :=
  (144 ≤ l1 → (K22 M)) ∧ (¬ 144 ≤ l1 → (vp_in l1 144 ∧ (∀ M1 : ST, M1 = ms_pairs M (upd (m_pairs M) l1.toNatClampNeg 0) → rec M1 (l1 + 1))))
def wp_m_freeAll_2 (K22 : ST → Prop) (post : ST → Prop) : Nat → ST → Int32 → Prop
  | 0 => fun _ _ => False
  | n + 1 => wp_m_freeAll_2_s K22 post (wp_m_freeAll_2 K22 post n)
set_option maxHeartbeats 4000000 in
set_option maxRecDepth 100000 in
theorem lb_m_freeAll_2 {κ : Cx} {g : Gx} {X : ST} (hκ : CF κ g RX10 cX10_freeAll wq_X10_freeAll 2 rm_m_freeAll) {post : ST → Prop} (hR : RtmV κ g 2 cX10_freeAll X post) {K22 : ST → Prop} (hK22 : ∀ (M : ST), K22 M → Jw κ g 2 X M [] 22 []) : ∀ (n : Nat) (M : ST) (l1 : Int32), wp_m_freeAll_2 K22 post n M l1 → Jw κ g 2 X M [(0, .ref (g.2.1 11)), (1, .int l1)] 2 [] := by
  intro n
  induction n with
  | zero =>
    intro M l1  h
    exact h.elim
  | succ n ih =>
    intro M l1  h
    have h : wp_m_freeAll_2_s K22 post (wp_m_freeAll_2 K22 post n) M l1 := h
    unfold wp_m_freeAll_2_s at h
    refine j_iload_n (pc' := 3) hκ 1 rfl rfl dX10_freeAll_2 rfl ?_
    refine j_sipush (pc' := 6) (v := 144) hκ (by decide) dX10_freeAll_3 rfl ?_
    refine j_icmp_ge (tgt := 22) (pc' := 9) hκ dX10_freeAll_6 (by decide) rfl (fun c => ?_) (fun c => ?_)
    · replace h := h.1 c
      refine j_sub [] rfl ?_
      exact hK22 _  h
    · replace h := h.2 c
      refine j_aload_n (pc' := 10) hκ 0 rfl rfl dX10_freeAll_9 rfl ?_
      refine jg_11_24 (pc' := 13) hκ (mi inlX10) (fl_in hκ (mc wm_8_6)) dX10_freeAll_10 rfl ?_
      refine j_iload_n (pc' := 14) hκ 1 rfl rfl dX10_freeAll_13 rfl ?_
      refine j_iconst (pc' := 15) (v := 0) hκ (by decide) dX10_freeAll_14 rfl ?_
      refine jm_iast (pc' := 16) hκ (ah_67 g) h.1 dX10_freeAll_15 rfl ?_
      replace h := h.2
      refine j_nmM (fun M1 eM1 => ?_)
      replace h := h M1 eM1
      refine j_iinc (pc' := 19) (v := l1 + 1) (lv' := [(1, .int (l1 + 1)), (0, .ref (g.2.1 11))]) hκ 1 rfl rfl (Nat.le_of_ble_eq_true rfl) rfl dX10_freeAll_16 rfl ?_
      refine j_goto (pc' := 2) hκ (by decide) dX10_freeAll_19 ?_
      refine j_sub [1, 0] rfl ?_
      exact ih _ _  h
def wp_m_freeAll (M : ST) (post : ST → Prop) : Prop :=
  ∃ n, wp_m_freeAll_2 (fun M2 => post M2) post n M 0
set_option maxHeartbeats 4000000 in
set_option maxRecDepth 100000 in
theorem lb_m_freeAll {κ : Cx} {g : Gx} {X : ST} (hκ : CF κ g RX10 cX10_freeAll wq_X10_freeAll 2 rm_m_freeAll) {post : ST → Prop} (hR : RtmV κ g 2 cX10_freeAll X post) {M : ST} (h : wp_m_freeAll M post) : Jw κ g 2 X M [(0, .ref (g.2.1 11))] 0 [] := by
  unfold wp_m_freeAll at h
  refine j_iconst (pc' := 1) (v := 0) hκ (by decide) dX10_freeAll_0 rfl ?_
  refine j_istore_n (pc' := 2) (lv' := [(1, .int 0), (0, .ref (g.2.1 11))]) hκ (Nat.le_of_ble_eq_true rfl) rfl rfl dX10_freeAll_1 rfl ?_
  obtain ⟨n, h⟩ := h
  refine j_sub [1, 0] rfl ?_
  refine lb_m_freeAll_2 hκ hR ?_ n _ _  h
  intro M2  h
  exact hR _ _ _ dX10_freeAll_22 h
theorem c_m_freeAll {g : Gx} (hg : Dg g) {X M : ST} {post : ST → Prop} (h : wp_m_freeAll M post) (l : Launch) : Met l yX10_freeAll wq_X10_freeAll rm_m_freeAll (va_Pc [.ref (g.2.1 11)] (PU g X M)) (va_Qv post (fun Y t => va_P g.1 vwCl (ww g X Y) t.heap) (wA g)) 0 0 (wA g) :=
  met_mv hg (by decide) rfl [.ref (g.2.1 11)] rfl (Nat.le_of_ble_eq_true rfl) (fun κ hκ hR => lb_m_freeAll hκ hR h) l
theorem wm_36_2 : Cond.methodLink RX10 231 yX10_freeAll ∈ wAll := inr_36 (List.mem_of_getElem? (i := 2) rfl)
theorem wm_36_3 : Cond.instanceMethod yX10_freeAll ∈ wAll := inr_36 (List.mem_of_getElem? (i := 3) rfl)
theorem wm_36_4 : Cond.selects RX10 yX10_freeAll yX10_freeAll ∈ wAll := inr_36 (List.mem_of_getElem? (i := 4) rfl)
theorem wm_36_5 : Cond.code yX10_freeAll cX10_freeAll 2 none ∈ wAll := inr_36 (List.mem_of_getElem? (i := 5) rfl)
theorem hqV_X10_freeAll : yX10_freeAll.cls = RX10 ∧ yX10_freeAll.cls ≠ "java/lang/invoke/MethodHandle" ∧ yX10_freeAll.cls ≠ "java/lang/invoke/VarHandle" ∧ (parseMethodDescriptor yX10_freeAll.desc).map (fun d => d.parameters.length) = some 0 := by decide +kernel
theorem wm_36_1 : Cond.fieldLink RX10 214 "LampRoundModel" "taken" "I" ∈ wAll := inr_36 (List.mem_of_getElem? (i := 1) rfl)
theorem wm_8_9 : Cond.fieldLink RX10 81 "LampRoundModel" "isTaken" "[Z" ∈ wAll := inr_8 (List.mem_of_getElem? (i := 9) rfl)
theorem wm_8_7 : Cond.fieldLink RX10 75 "LampRoundModel" "hang" "[I" ∈ wAll := inr_8 (List.mem_of_getElem? (i := 7) rfl)
abbrev rm_m_first : Room := { frames := 0, cells := 0, slots := 0, locals := 0 }
def wp_m_first_2_s (K17 : ST → Int32 → Prop) (post : Int32 → ST → Prop) (rec : ST → Int32 → Prop) (M : ST) (l1 : Int32) : Prop :=
  vp_in l1 12 ∧ (((m_isOut M l1.toNatClampNeg) = 0 → (K17 M l1)) ∧ (¬ (m_isOut M l1.toNatClampNeg) = 0 → (rec M (l1 + 1))))
def wp_m_first_2 (K17 : ST → Int32 → Prop) (post : Int32 → ST → Prop) : Nat → ST → Int32 → Prop
  | 0 => fun _ _ => False
  | n + 1 => wp_m_first_2_s K17 post (wp_m_first_2 K17 post n)
set_option maxHeartbeats 4000000 in
set_option maxRecDepth 100000 in
theorem lb_m_first_2 {κ : Cx} {g : Gx} {X : ST} (hκ : CF κ g RX10 cX10_first wq_X10_first 2 rm_m_first) {post : Int32 → ST → Prop} (hR : RtmI κ g 2 cX10_first X post) {K17 : ST → Int32 → Prop} (hK17 : ∀ (M : ST) (l1 : Int32), K17 M l1 → Jw κ g 2 X M [(1, .int l1)] 17 []) : ∀ (n : Nat) (M : ST) (l1 : Int32), wp_m_first_2 K17 post n M l1 → Jw κ g 2 X M [(0, .ref (g.2.1 11)), (1, .int l1)] 2 [] := by
  intro n
  induction n with
  | zero =>
    intro M l1  h
    exact h.elim
  | succ n ih =>
    intro M l1  h
    have h : wp_m_first_2_s K17 post (wp_m_first_2 K17 post n) M l1 := h
    unfold wp_m_first_2_s at h
    refine j_aload_n (pc' := 3) hκ 0 rfl rfl dX10_first_2 rfl ?_
    refine jg_11_13 (pc' := 6) hκ (mi inlX10) (fl_in hκ (mc wm_7_21)) dX10_first_3 rfl ?_
    refine j_iload_n (pc' := 7) hκ 1 rfl rfl dX10_first_6 rfl ?_
    refine jm_zald (pc' := 8) hκ (ah_58 g) h.1 dX10_first_7 rfl ?_
    replace h := h.2
    refine j_if_eq (tgt := 17) (pc' := 11) hκ dX10_first_8 (by decide) rfl (fun c => ?_) (fun c => ?_)
    · replace h := h.1 c
      refine j_sub [1] rfl ?_
      exact hK17 _ _  h
    · replace h := h.2 c
      refine j_iinc (pc' := 14) (v := l1 + 1) (lv' := [(1, .int (l1 + 1)), (0, .ref (g.2.1 11))]) hκ 1 rfl rfl (Nat.le_of_ble_eq_true rfl) rfl dX10_first_11 rfl ?_
      refine j_goto (pc' := 2) hκ (by decide) dX10_first_14 ?_
      refine j_sub [1, 0] rfl ?_
      exact ih _ _  h
def wp_m_first (M : ST) (post : Int32 → ST → Prop) : Prop :=
  ∃ n, wp_m_first_2 (fun M1 v2 => post v2 M1) post n M 0
set_option maxHeartbeats 4000000 in
set_option maxRecDepth 100000 in
theorem lb_m_first {κ : Cx} {g : Gx} {X : ST} (hκ : CF κ g RX10 cX10_first wq_X10_first 2 rm_m_first) {post : Int32 → ST → Prop} (hR : RtmI κ g 2 cX10_first X post) {M : ST} (h : wp_m_first M post) : Jw κ g 2 X M [(0, .ref (g.2.1 11))] 0 [] := by
  unfold wp_m_first at h
  refine j_iconst (pc' := 1) (v := 0) hκ (by decide) dX10_first_0 rfl ?_
  refine j_istore_n (pc' := 2) (lv' := [(1, .int 0), (0, .ref (g.2.1 11))]) hκ (Nat.le_of_ble_eq_true rfl) rfl rfl dX10_first_1 rfl ?_
  obtain ⟨n, h⟩ := h
  refine j_sub [1, 0] rfl ?_
  refine lb_m_first_2 hκ hR ?_ n _ _  h
  intro M1 v2  h
  refine j_iload_n (pc' := 18) hκ 0 rfl rfl dX10_first_17 rfl ?_
  exact hR _ _ _ _ dX10_first_18 h
theorem c_m_first {g : Gx} (hg : Dg g) {X M : ST} {post : Int32 → ST → Prop} (h : wp_m_first M post) (l : Launch) : Met l yX10_first wq_X10_first rm_m_first (va_Pc [.ref (g.2.1 11)] (PU g X M)) (va_Qi post (fun Y t => va_P g.1 vwCl (ww g X Y) t.heap) (wA g)) 0 0 (wA g) :=
  met_mi hg (by decide) rfl [.ref (g.2.1 11)] rfl (Nat.le_of_ble_eq_true rfl) (fun κ hκ hR => lb_m_first hκ hR h) l
theorem wm_36_15 : Cond.methodLink RX10 201 yX10_first ∈ wAll := inr_36 (List.mem_of_getElem? (i := 15) rfl)
theorem wm_36_16 : Cond.instanceMethod yX10_first ∈ wAll := inr_36 (List.mem_of_getElem? (i := 16) rfl)
theorem wm_36_17 : Cond.selects RX10 yX10_first yX10_first ∈ wAll := inr_36 (List.mem_of_getElem? (i := 17) rfl)
theorem wm_36_18 : Cond.code yX10_first cX10_first 2 (some .int) ∈ wAll := inr_36 (List.mem_of_getElem? (i := 18) rfl)
theorem hqV_X10_first : yX10_first.cls = RX10 ∧ yX10_first.cls ≠ "java/lang/invoke/MethodHandle" ∧ yX10_first.cls ≠ "java/lang/invoke/VarHandle" ∧ (parseMethodDescriptor yX10_first.desc).map (fun d => d.parameters.length) = some 0 := by decide +kernel
abbrev rm_m_isPair : Room := { frames := 2, cells := 0, slots := 0, locals := 42 }
def wp_m_isPair (M : ST) (p1 : Int32) (post : Int32 → ST → Prop) : Prop :=
  ((p1 - p1 / 12 * 12) ≤ (p1 / 12) → (post 0 M)) ∧ (¬ (p1 - p1 / 12 * 12) ≤ (p1 / 12) → (wp_m_isLit M (p1 / 12) (fun r2 M1 => (r2 = 0 → (post 0 M1)) ∧ (¬ r2 = 0 → (wp_m_isLit M1 (p1 - p1 / 12 * 12) (fun r4 M3 => (r4 = 0 → (post 0 M3)) ∧ (¬ r4 = 0 → (post 1 M3))))))))
set_option maxHeartbeats 4000000 in
set_option maxRecDepth 100000 in
theorem lb_m_isPair {κ : Cx} {g : Gx} {X : ST} (hκ : CF κ g RX10 cX10_isPair wq_X10_isPair 2 rm_m_isPair) {post : Int32 → ST → Prop} (hR : RtmZ κ g 2 cX10_isPair X post) {M : ST} {p1 : Int32} (h : wp_m_isPair M p1 post) : Jw κ g 2 X M [(0, .ref (g.2.1 11)), (1, .int p1)] 0 [] := by
  unfold wp_m_isPair at h
  refine j_iload_n (pc' := 1) hκ 1 rfl rfl dX10_isPair_0 rfl ?_
  refine j_bipush (pc' := 3) (v := 12) hκ (by decide) dX10_isPair_1 rfl ?_
  refine j_idiv (pc' := 4) hκ (by decide) dX10_isPair_3 rfl ?_
  refine j_iload_n (pc' := 5) hκ 1 rfl rfl dX10_isPair_4 rfl ?_
  refine j_bipush (pc' := 7) (v := 12) hκ (by decide) dX10_isPair_5 rfl ?_
  refine j_irem (pc' := 8) hκ (by decide) dX10_isPair_7 rfl ?_
  refine j_icmp_ge (tgt := 37) (pc' := 11) hκ dX10_isPair_8 (by decide) rfl (fun c => ?_) (fun c => ?_)
  · replace h := h.1 c
    refine j_iconst (pc' := 38) (v := 0) hκ (by decide) dX10_isPair_37 rfl ?_
    exact hR _ _ _ _ dX10_isPair_38 (Or.inl rfl) h
  · replace h := h.2 c
    refine j_aload_n (pc' := 12) hκ 0 rfl rfl dX10_isPair_11 rfl ?_
    refine j_iload_n (pc' := 13) hκ 1 rfl rfl dX10_isPair_12 rfl ?_
    refine j_bipush (pc' := 15) (v := 12) hκ (by decide) dX10_isPair_13 rfl ?_
    refine j_idiv (pc' := 16) hκ (by decide) dX10_isPair_15 rfl ?_
    refine jm_callVi (pc' := 19) hκ (c_m_isLit (dg hκ) h) rfl rfl rfl (gV wm_27_8 wm_27_9 wm_27_10 wm_1_5 wm_27_11) hqV_X10_isLit ⟨Nat.le_of_ble_eq_true rfl, Nat.le_of_ble_eq_true rfl⟩ (wg_11 g _ _) rfl rfl rfl (Nat.le_of_ble_eq_true rfl) dX10_isPair_16 rfl (fun r2 M1 h => ?_)
    refine j_if_eq (tgt := 37) (pc' := 22) hκ dX10_isPair_19 (by decide) rfl (fun c => ?_) (fun c => ?_)
    · replace h := h.1 c
      refine j_iconst (pc' := 38) (v := 0) hκ (by decide) dX10_isPair_37 rfl ?_
      exact hR _ _ _ _ dX10_isPair_38 (Or.inl rfl) h
    · replace h := h.2 c
      refine j_aload_n (pc' := 23) hκ 0 rfl rfl dX10_isPair_22 rfl ?_
      refine j_iload_n (pc' := 24) hκ 1 rfl rfl dX10_isPair_23 rfl ?_
      refine j_bipush (pc' := 26) (v := 12) hκ (by decide) dX10_isPair_24 rfl ?_
      refine j_irem (pc' := 27) hκ (by decide) dX10_isPair_26 rfl ?_
      refine jm_callVi (pc' := 30) hκ (c_m_isLit (dg hκ) h) rfl rfl rfl (gV wm_27_8 wm_27_9 wm_27_10 wm_1_5 wm_27_11) hqV_X10_isLit ⟨Nat.le_of_ble_eq_true rfl, Nat.le_of_ble_eq_true rfl⟩ (wg_11 g _ _) rfl rfl rfl (Nat.le_of_ble_eq_true rfl) dX10_isPair_27 rfl (fun r4 M3 h => ?_)
      refine j_if_eq (tgt := 37) (pc' := 33) hκ dX10_isPair_30 (by decide) rfl (fun c => ?_) (fun c => ?_)
      · replace h := h.1 c
        refine j_iconst (pc' := 38) (v := 0) hκ (by decide) dX10_isPair_37 rfl ?_
        exact hR _ _ _ _ dX10_isPair_38 (Or.inl rfl) h
      · replace h := h.2 c
        refine j_iconst (pc' := 34) (v := 1) hκ (by decide) dX10_isPair_33 rfl ?_
        refine j_goto (pc' := 38) hκ (by decide) dX10_isPair_34 ?_
        exact hR _ _ _ _ dX10_isPair_38 (Or.inr rfl) h
theorem c_m_isPair {g : Gx} (hg : Dg g) {X M : ST} {p1 : Int32} {post : Int32 → ST → Prop} (h : wp_m_isPair M p1 post) (l : Launch) : Met l yX10_isPair wq_X10_isPair rm_m_isPair (va_Pc [.ref (g.2.1 11), .int p1] (PU g X M)) (va_Qi post (fun Y t => va_P g.1 vwCl (ww g X Y) t.heap) (wA g)) 0 0 (wA g) :=
  met_mz hg (by decide) rfl [.ref (g.2.1 11), .int p1] rfl (Nat.le_of_ble_eq_true rfl) (fun κ hκ hR => lb_m_isPair hκ hR h) l
theorem wm_36_19 : Cond.methodLink RX10 204 yX10_isPair ∈ wAll := inr_36 (List.mem_of_getElem? (i := 19) rfl)
theorem wm_36_20 : Cond.instanceMethod yX10_isPair ∈ wAll := inr_36 (List.mem_of_getElem? (i := 20) rfl)
theorem wm_36_21 : Cond.selects RX10 yX10_isPair yX10_isPair ∈ wAll := inr_36 (List.mem_of_getElem? (i := 21) rfl)
theorem wm_36_22 : Cond.code yX10_isPair cX10_isPair 2 (some .boolean) ∈ wAll := inr_36 (List.mem_of_getElem? (i := 22) rfl)
theorem hqV_X10_isPair : yX10_isPair.cls = RX10 ∧ yX10_isPair.cls ≠ "java/lang/invoke/MethodHandle" ∧ yX10_isPair.cls ≠ "java/lang/invoke/VarHandle" ∧ (parseMethodDescriptor yX10_isPair.desc).map (fun d => d.parameters.length) = some 1 := by decide +kernel
abbrev rm_m_hasWay : Room := { frames := 1, cells := 0, slots := 0, locals := 22 }
def wp_m_hasWay (M : ST) (p1 : Int32) (post : Int32 → ST → Prop) : Prop :=
  wp_m_between M (p1 / 12) (p1 - p1 / 12 * 12) (fun r2 M1 => (r2 = 1000000000 → (post 0 M1)) ∧ (¬ r2 = 1000000000 → (post 1 M1)))
set_option maxHeartbeats 4000000 in
set_option maxRecDepth 100000 in
theorem lb_m_hasWay {κ : Cx} {g : Gx} {X : ST} (hκ : CF κ g RX10 cX10_hasWay wq_X10_hasWay 2 rm_m_hasWay) {post : Int32 → ST → Prop} (hR : RtmZ κ g 2 cX10_hasWay X post) {M : ST} {p1 : Int32} (h : wp_m_hasWay M p1 post) : Jw κ g 2 X M [(0, .ref (g.2.1 11)), (1, .int p1)] 0 [] := by
  unfold wp_m_hasWay at h
  refine j_aload_n (pc' := 1) hκ 0 rfl rfl dX10_hasWay_0 rfl ?_
  refine j_iload_n (pc' := 2) hκ 1 rfl rfl dX10_hasWay_1 rfl ?_
  refine j_bipush (pc' := 4) (v := 12) hκ (by decide) dX10_hasWay_2 rfl ?_
  refine j_idiv (pc' := 5) hκ (by decide) dX10_hasWay_4 rfl ?_
  refine j_iload_n (pc' := 6) hκ 1 rfl rfl dX10_hasWay_5 rfl ?_
  refine j_bipush (pc' := 8) (v := 12) hκ (by decide) dX10_hasWay_6 rfl ?_
  refine j_irem (pc' := 9) hκ (by decide) dX10_hasWay_8 rfl ?_
  refine jm_callVi (pc' := 12) hκ (c_m_between (dg hκ) h) rfl rfl rfl (gV wm_19_21 wm_19_22 wm_19_23 wm_1_5 wm_20_0) hqV_X10_between ⟨Nat.le_of_ble_eq_true rfl, Nat.le_of_ble_eq_true rfl⟩ (wg_11 g _ _) rfl rfl rfl (Nat.le_of_ble_eq_true rfl) dX10_hasWay_9 rfl (fun r2 M1 h => ?_)
  refine j_ldc (pc' := 14) hκ (mc wm_8_19) dX10_hasWay_12 rfl ?_
  refine j_icmp_eq (tgt := 21) (pc' := 17) hκ dX10_hasWay_14 (by decide) rfl (fun c => ?_) (fun c => ?_)
  · replace h := h.1 c
    refine j_iconst (pc' := 22) (v := 0) hκ (by decide) dX10_hasWay_21 rfl ?_
    exact hR _ _ _ _ dX10_hasWay_22 (Or.inl rfl) h
  · replace h := h.2 c
    refine j_iconst (pc' := 18) (v := 1) hκ (by decide) dX10_hasWay_17 rfl ?_
    refine j_goto (pc' := 22) hκ (by decide) dX10_hasWay_18 ?_
    exact hR _ _ _ _ dX10_hasWay_22 (Or.inr rfl) h
theorem c_m_hasWay {g : Gx} (hg : Dg g) {X M : ST} {p1 : Int32} {post : Int32 → ST → Prop} (h : wp_m_hasWay M p1 post) (l : Launch) : Met l yX10_hasWay wq_X10_hasWay rm_m_hasWay (va_Pc [.ref (g.2.1 11), .int p1] (PU g X M)) (va_Qi post (fun Y t => va_P g.1 vwCl (ww g X Y) t.heap) (wA g)) 0 0 (wA g) :=
  met_mz hg (by decide) rfl [.ref (g.2.1 11), .int p1] rfl (Nat.le_of_ble_eq_true rfl) (fun κ hκ hR => lb_m_hasWay hκ hR h) l
theorem wm_36_23 : Cond.methodLink RX10 207 yX10_hasWay ∈ wAll := inr_36 (List.mem_of_getElem? (i := 23) rfl)
theorem wm_37_0 : Cond.instanceMethod yX10_hasWay ∈ wAll := inr_37 (List.mem_of_getElem? (i := 0) rfl)
theorem wm_37_1 : Cond.selects RX10 yX10_hasWay yX10_hasWay ∈ wAll := inr_37 (List.mem_of_getElem? (i := 1) rfl)
theorem wm_37_2 : Cond.code yX10_hasWay cX10_hasWay 2 (some .boolean) ∈ wAll := inr_37 (List.mem_of_getElem? (i := 2) rfl)
theorem hqV_X10_hasWay : yX10_hasWay.cls = RX10 ∧ yX10_hasWay.cls ≠ "java/lang/invoke/MethodHandle" ∧ yX10_hasWay.cls ≠ "java/lang/invoke/VarHandle" ∧ (parseMethodDescriptor yX10_hasWay.desc).map (fun d => d.parameters.length) = some 1 := by decide +kernel
abbrev rm_m_priced : Room := { frames := 1, cells := 0, slots := 0, locals := 22 }
def wp_m_priced (M : ST) (p1 : Int32) (post : Int64 → ST → Prop) : Prop :=
  ∀ v1 : Int32, v1 = p1 / 12 → ∀ v2 : Int32, v2 = p1 - p1 / 12 * 12 → wp_m_between M v1 v2 (fun r4 M3 => vp_in v1 12 ∧ (vp_in v2 12 ∧ (post (((r4.toInt64) + ((m_price M3 v1.toNatClampNeg).toInt64)) + ((m_price M3 v2.toNatClampNeg).toInt64)) M3)))
set_option maxHeartbeats 4000000 in
set_option maxRecDepth 100000 in
theorem lb_m_priced {κ : Cx} {g : Gx} {X : ST} (hκ : CF κ g RX10 cX10_priced wq_X10_priced 4 rm_m_priced) {post : Int64 → ST → Prop} (hR : RtmL κ g 4 cX10_priced X post) {M : ST} {p1 : Int32} (h : wp_m_priced M p1 post) : Jw κ g 4 X M [(0, .ref (g.2.1 11)), (1, .int p1)] 0 [] := by
  unfold wp_m_priced at h
  refine j_iload_n (pc' := 1) hκ 1 rfl rfl dX10_priced_0 rfl ?_
  refine j_bipush (pc' := 3) (v := 12) hκ (by decide) dX10_priced_1 rfl ?_
  refine j_idiv (pc' := 4) hκ (by decide) dX10_priced_3 rfl ?_
  refine j_topi (fun v1 ev1 => ?_)
  replace h := h v1 ev1
  refine j_istore_n (pc' := 5) (lv' := [(2, .int v1), (0, .ref (g.2.1 11)), (1, .int p1)]) hκ (Nat.le_of_ble_eq_true rfl) rfl rfl dX10_priced_4 rfl ?_
  refine j_iload_n (pc' := 6) hκ 2 rfl rfl dX10_priced_5 rfl ?_
  refine j_bipush (pc' := 8) (v := 12) hκ (by decide) dX10_priced_6 rfl ?_
  refine j_irem (pc' := 9) hκ (by decide) dX10_priced_8 rfl ?_
  refine j_topi (fun v2 ev2 => ?_)
  replace h := h v2 ev2
  refine j_istore_n (pc' := 10) (lv' := [(3, .int v2), (2, .int v1), (0, .ref (g.2.1 11)), (1, .int p1)]) hκ (Nat.le_of_ble_eq_true rfl) rfl rfl dX10_priced_9 rfl ?_
  refine j_aload_n (pc' := 11) hκ 2 rfl rfl dX10_priced_10 rfl ?_
  refine j_iload_n (pc' := 12) hκ 1 rfl rfl dX10_priced_11 rfl ?_
  refine j_iload_n (pc' := 13) hκ 0 rfl rfl dX10_priced_12 rfl ?_
  refine jm_callVi (pc' := 16) hκ (c_m_between (dg hκ) h) rfl rfl rfl (gV wm_19_21 wm_19_22 wm_19_23 wm_1_5 wm_20_0) hqV_X10_between ⟨Nat.le_of_ble_eq_true rfl, Nat.le_of_ble_eq_true rfl⟩ (wg_11 g _ _) rfl rfl rfl (Nat.le_of_ble_eq_true rfl) dX10_priced_13 rfl (fun r4 M3 h => ?_)
  refine j_i2l (pc' := 17) hκ dX10_priced_16 rfl ?_
  refine j_aload_n (pc' := 18) hκ 2 rfl rfl dX10_priced_17 rfl ?_
  refine jg_11_14 (pc' := 21) hκ (mi inlX10) (fl_in hκ (mc wm_7_22)) dX10_priced_18 rfl ?_
  refine j_iload_n (pc' := 22) hκ 1 rfl rfl dX10_priced_21 rfl ?_
  refine jm_iald (pc' := 23) hκ (ah_59 g) h.1 dX10_priced_22 rfl ?_
  replace h := h.2
  refine j_i2l (pc' := 24) hκ dX10_priced_23 rfl ?_
  refine j_ladd (pc' := 25) hκ dX10_priced_24 rfl ?_
  refine j_aload_n (pc' := 26) hκ 2 rfl rfl dX10_priced_25 rfl ?_
  refine jg_11_14 (pc' := 29) hκ (mi inlX10) (fl_in hκ (mc wm_7_22)) dX10_priced_26 rfl ?_
  refine j_iload_n (pc' := 30) hκ 0 rfl rfl dX10_priced_29 rfl ?_
  refine jm_iald (pc' := 31) hκ (ah_59 g) h.1 dX10_priced_30 rfl ?_
  replace h := h.2
  refine j_i2l (pc' := 32) hκ dX10_priced_31 rfl ?_
  refine j_ladd (pc' := 33) hκ dX10_priced_32 rfl ?_
  exact hR _ _ _ _ dX10_priced_33 h
theorem c_m_priced {g : Gx} (hg : Dg g) {X M : ST} {p1 : Int32} {post : Int64 → ST → Prop} (h : wp_m_priced M p1 post) (l : Launch) : Met l yX10_priced wq_X10_priced rm_m_priced (va_Pc [.ref (g.2.1 11), .int p1] (PU g X M)) (va_Ql post (fun Y t => va_P g.1 vwCl (ww g X Y) t.heap) (wA g)) 0 0 (wA g) :=
  met_ml hg (by decide) rfl [.ref (g.2.1 11), .int p1] rfl (Nat.le_of_ble_eq_true rfl) (fun κ hκ hR => lb_m_priced hκ hR h) l
theorem wm_37_7 : Cond.methodLink RX10 197 yX10_priced ∈ wAll := inr_37 (List.mem_of_getElem? (i := 7) rfl)
theorem wm_37_8 : Cond.instanceMethod yX10_priced ∈ wAll := inr_37 (List.mem_of_getElem? (i := 8) rfl)
theorem wm_37_9 : Cond.selects RX10 yX10_priced yX10_priced ∈ wAll := inr_37 (List.mem_of_getElem? (i := 9) rfl)
theorem wm_37_10 : Cond.code yX10_priced cX10_priced 4 (some .long) ∈ wAll := inr_37 (List.mem_of_getElem? (i := 10) rfl)
theorem hqV_X10_priced : yX10_priced.cls = RX10 ∧ yX10_priced.cls ≠ "java/lang/invoke/MethodHandle" ∧ yX10_priced.cls ≠ "java/lang/invoke/VarHandle" ∧ (parseMethodDescriptor yX10_priced.desc).map (fun d => d.parameters.length) = some 1 := by decide +kernel
abbrev rm_m_isAhead : Room := { frames := 2, cells := 0, slots := 0, locals := 45 }
def wp_m_isAhead_51 (post : Int32 → ST → Prop) (M : ST) (l1 : Int32) (l2 : Int32) : Prop :=
  wp_m_priced M l1 (fun r2 M1 => wp_m_priced M1 l2 (fun r4 M3 => (r2 = r4 → ((l2 ≤ l1 → (post 0 M3)) ∧ (¬ l2 ≤ l1 → (post 1 M3)))) ∧ (¬ r2 = r4 → (wp_m_priced M3 l1 (fun r6 M5 => wp_m_priced M5 l2 (fun r8 M7 => (r8 ≤ r6 → (post 0 M7)) ∧ (¬ r8 ≤ r6 → (post 1 M7))))))))
set_option maxHeartbeats 4000000 in
set_option maxRecDepth 100000 in
theorem lb_m_isAhead_51 {κ : Cx} {g : Gx} {X : ST} (hκ : CF κ g RX10 cX10_isAhead wq_X10_isAhead 3 rm_m_isAhead) {post : Int32 → ST → Prop} (hR : RtmZ κ g 3 cX10_isAhead X post) : ∀ (M : ST) (l1 : Int32) (l2 : Int32), wp_m_isAhead_51 post M l1 l2 → Jw κ g 3 X M [(0, .ref (g.2.1 11)), (1, .int l1), (2, .int l2)] 51 [] := by
  intro M l1 l2  h
  unfold wp_m_isAhead_51 at h
  refine j_aload_n (pc' := 52) hκ 0 rfl rfl dX10_isAhead_51 rfl ?_
  refine j_iload_n (pc' := 53) hκ 1 rfl rfl dX10_isAhead_52 rfl ?_
  refine jm_callVl (pc' := 56) hκ (c_m_priced (dg hκ) h) rfl rfl rfl (gV wm_37_7 wm_37_8 wm_37_9 wm_1_5 wm_37_10) hqV_X10_priced ⟨Nat.le_of_ble_eq_true rfl, Nat.le_of_ble_eq_true rfl⟩ (wg_11 g _ _) rfl rfl rfl (Nat.le_of_ble_eq_true rfl) dX10_isAhead_53 rfl (fun r2 M1 h => ?_)
  refine j_aload_n (pc' := 57) hκ 0 rfl rfl dX10_isAhead_56 rfl ?_
  refine j_iload_n (pc' := 58) hκ 2 rfl rfl dX10_isAhead_57 rfl ?_
  refine jm_callVl (pc' := 61) hκ (c_m_priced (dg hκ) h) rfl rfl rfl (gV wm_37_7 wm_37_8 wm_37_9 wm_1_5 wm_37_10) hqV_X10_priced ⟨Nat.le_of_ble_eq_true rfl, Nat.le_of_ble_eq_true rfl⟩ (wg_11 g _ _) rfl rfl rfl (Nat.le_of_ble_eq_true rfl) dX10_isAhead_58 rfl (fun r4 M3 h => ?_)
  refine j_lc_eq (tgt := 87) (pc1 := 62) (pc' := 65) hκ dX10_isAhead_61 rfl dX10_isAhead_62 (by decide) rfl (fun c => ?_) (fun c => ?_)
  · replace h := h.1 c
    refine j_iload_n (pc' := 88) hκ 1 rfl rfl dX10_isAhead_87 rfl ?_
    refine j_iload_n (pc' := 89) hκ 2 rfl rfl dX10_isAhead_88 rfl ?_
    refine j_icmp_ge (tgt := 96) (pc' := 92) hκ dX10_isAhead_89 (by decide) rfl (fun c => ?_) (fun c => ?_)
    · replace h := h.1 c
      refine j_iconst (pc' := 97) (v := 0) hκ (by decide) dX10_isAhead_96 rfl ?_
      exact hR _ _ _ _ dX10_isAhead_97 (Or.inl rfl) h
    · replace h := h.2 c
      refine j_iconst (pc' := 93) (v := 1) hκ (by decide) dX10_isAhead_92 rfl ?_
      refine j_goto (pc' := 97) hκ (by decide) dX10_isAhead_93 ?_
      exact hR _ _ _ _ dX10_isAhead_97 (Or.inr rfl) h
  · replace h := h.2 c
    refine j_aload_n (pc' := 66) hκ 0 rfl rfl dX10_isAhead_65 rfl ?_
    refine j_iload_n (pc' := 67) hκ 1 rfl rfl dX10_isAhead_66 rfl ?_
    refine jm_callVl (pc' := 70) hκ (c_m_priced (dg hκ) h) rfl rfl rfl (gV wm_37_7 wm_37_8 wm_37_9 wm_1_5 wm_37_10) hqV_X10_priced ⟨Nat.le_of_ble_eq_true rfl, Nat.le_of_ble_eq_true rfl⟩ (wg_11 g _ _) rfl rfl rfl (Nat.le_of_ble_eq_true rfl) dX10_isAhead_67 rfl (fun r6 M5 h => ?_)
    refine j_aload_n (pc' := 71) hκ 0 rfl rfl dX10_isAhead_70 rfl ?_
    refine j_iload_n (pc' := 72) hκ 2 rfl rfl dX10_isAhead_71 rfl ?_
    refine jm_callVl (pc' := 75) hκ (c_m_priced (dg hκ) h) rfl rfl rfl (gV wm_37_7 wm_37_8 wm_37_9 wm_1_5 wm_37_10) hqV_X10_priced ⟨Nat.le_of_ble_eq_true rfl, Nat.le_of_ble_eq_true rfl⟩ (wg_11 g _ _) rfl rfl rfl (Nat.le_of_ble_eq_true rfl) dX10_isAhead_72 rfl (fun r8 M7 h => ?_)
    refine j_lc_ge (tgt := 83) (pc1 := 76) (pc' := 79) hκ dX10_isAhead_75 rfl dX10_isAhead_76 (by decide) rfl (fun c => ?_) (fun c => ?_)
    · replace h := h.1 c
      refine j_iconst (pc' := 84) (v := 0) hκ (by decide) dX10_isAhead_83 rfl ?_
      refine j_goto (pc' := 97) hκ (by decide) dX10_isAhead_84 ?_
      exact hR _ _ _ _ dX10_isAhead_97 (Or.inl rfl) h
    · replace h := h.2 c
      refine j_iconst (pc' := 80) (v := 1) hκ (by decide) dX10_isAhead_79 rfl ?_
      refine j_goto (pc' := 97) hκ (by decide) dX10_isAhead_80 ?_
      exact hR _ _ _ _ dX10_isAhead_97 (Or.inr rfl) h
def wp_m_isAhead_35 (post : Int32 → ST → Prop) (M : ST) (l1 : Int32) : Prop :=
  vp_in l1 144 ∧ ((¬ (m_pairs M l1.toNatClampNeg) = 1 → (post 0 M)) ∧ ((m_pairs M l1.toNatClampNeg) = 1 → (post 1 M)))
set_option maxHeartbeats 4000000 in
set_option maxRecDepth 100000 in
theorem lb_m_isAhead_35 {κ : Cx} {g : Gx} {X : ST} (hκ : CF κ g RX10 cX10_isAhead wq_X10_isAhead 3 rm_m_isAhead) {post : Int32 → ST → Prop} (hR : RtmZ κ g 3 cX10_isAhead X post) : ∀ (M : ST) (l1 : Int32), wp_m_isAhead_35 post M l1 → Jw κ g 3 X M [(0, .ref (g.2.1 11)), (1, .int l1)] 35 [] := by
  intro M l1  h
  unfold wp_m_isAhead_35 at h
  refine j_aload_n (pc' := 36) hκ 0 rfl rfl dX10_isAhead_35 rfl ?_
  refine jg_11_24 (pc' := 39) hκ (mi inlX10) (fl_in hκ (mc wm_8_6)) dX10_isAhead_36 rfl ?_
  refine j_iload_n (pc' := 40) hκ 1 rfl rfl dX10_isAhead_39 rfl ?_
  refine jm_iald (pc' := 41) hκ (ah_67 g) h.1 dX10_isAhead_40 rfl ?_
  replace h := h.2
  refine j_iconst (pc' := 42) (v := 1) hκ (by decide) dX10_isAhead_41 rfl ?_
  refine j_icmp_ne (tgt := 49) (pc' := 45) hκ dX10_isAhead_42 (by decide) rfl (fun c => ?_) (fun c => ?_)
  · replace h := h.1 c
    refine j_iconst (pc' := 50) (v := 0) hκ (by decide) dX10_isAhead_49 rfl ?_
    exact hR _ _ _ _ dX10_isAhead_50 (Or.inl rfl) h
  · replace h := h.2 c
    refine j_iconst (pc' := 46) (v := 1) hκ (by decide) dX10_isAhead_45 rfl ?_
    refine j_goto (pc' := 50) hκ (by decide) dX10_isAhead_46 ?_
    exact hR _ _ _ _ dX10_isAhead_50 (Or.inr rfl) h
def wp_m_isAhead (M : ST) (p1 : Int32) (p2 : Int32) (post : Int32 → ST → Prop) : Prop :=
  vp_in p1 144 ∧ (vp_in p2 144 ∧ (((m_pairs M p1.toNatClampNeg) = (m_pairs M p2.toNatClampNeg) → (wp_m_isAhead_51 post M p1 p2)) ∧ (¬ (m_pairs M p1.toNatClampNeg) = (m_pairs M p2.toNatClampNeg) → (vp_in p1 144 ∧ (((m_pairs M p1.toNatClampNeg) = 1 → (wp_m_isAhead_35 post M p1)) ∧ (¬ (m_pairs M p1.toNatClampNeg) = 1 → (vp_in p2 144 ∧ ((¬ (m_pairs M p2.toNatClampNeg) = 1 → (wp_m_isAhead_51 post M p1 p2)) ∧ ((m_pairs M p2.toNatClampNeg) = 1 → (wp_m_isAhead_35 post M p1))))))))))
set_option maxHeartbeats 4000000 in
set_option maxRecDepth 100000 in
theorem lb_m_isAhead {κ : Cx} {g : Gx} {X : ST} (hκ : CF κ g RX10 cX10_isAhead wq_X10_isAhead 3 rm_m_isAhead) {post : Int32 → ST → Prop} (hR : RtmZ κ g 3 cX10_isAhead X post) {M : ST} {p1 : Int32} {p2 : Int32} (h : wp_m_isAhead M p1 p2 post) : Jw κ g 3 X M [(0, .ref (g.2.1 11)), (1, .int p1), (2, .int p2)] 0 [] := by
  unfold wp_m_isAhead at h
  refine j_aload_n (pc' := 1) hκ 0 rfl rfl dX10_isAhead_0 rfl ?_
  refine jg_11_24 (pc' := 4) hκ (mi inlX10) (fl_in hκ (mc wm_8_6)) dX10_isAhead_1 rfl ?_
  refine j_iload_n (pc' := 5) hκ 1 rfl rfl dX10_isAhead_4 rfl ?_
  refine jm_iald (pc' := 6) hκ (ah_67 g) h.1 dX10_isAhead_5 rfl ?_
  replace h := h.2
  refine j_aload_n (pc' := 7) hκ 0 rfl rfl dX10_isAhead_6 rfl ?_
  refine jg_11_24 (pc' := 10) hκ (mi inlX10) (fl_in hκ (mc wm_8_6)) dX10_isAhead_7 rfl ?_
  refine j_iload_n (pc' := 11) hκ 2 rfl rfl dX10_isAhead_10 rfl ?_
  refine jm_iald (pc' := 12) hκ (ah_67 g) h.1 dX10_isAhead_11 rfl ?_
  replace h := h.2
  refine j_icmp_eq (tgt := 51) (pc' := 15) hκ dX10_isAhead_12 (by decide) rfl (fun c => ?_) (fun c => ?_)
  · replace h := h.1 c
    refine lb_m_isAhead_51 hκ hR _ _ _  h
  · replace h := h.2 c
    refine j_aload_n (pc' := 16) hκ 0 rfl rfl dX10_isAhead_15 rfl ?_
    refine jg_11_24 (pc' := 19) hκ (mi inlX10) (fl_in hκ (mc wm_8_6)) dX10_isAhead_16 rfl ?_
    refine j_iload_n (pc' := 20) hκ 1 rfl rfl dX10_isAhead_19 rfl ?_
    refine jm_iald (pc' := 21) hκ (ah_67 g) h.1 dX10_isAhead_20 rfl ?_
    replace h := h.2
    refine j_iconst (pc' := 22) (v := 1) hκ (by decide) dX10_isAhead_21 rfl ?_
    refine j_icmp_eq (tgt := 35) (pc' := 25) hκ dX10_isAhead_22 (by decide) rfl (fun c => ?_) (fun c => ?_)
    · replace h := h.1 c
      refine j_sub [0, 1] rfl ?_
      refine lb_m_isAhead_35 hκ hR _ _  h
    · replace h := h.2 c
      refine j_aload_n (pc' := 26) hκ 0 rfl rfl dX10_isAhead_25 rfl ?_
      refine jg_11_24 (pc' := 29) hκ (mi inlX10) (fl_in hκ (mc wm_8_6)) dX10_isAhead_26 rfl ?_
      refine j_iload_n (pc' := 30) hκ 2 rfl rfl dX10_isAhead_29 rfl ?_
      refine jm_iald (pc' := 31) hκ (ah_67 g) h.1 dX10_isAhead_30 rfl ?_
      replace h := h.2
      refine j_iconst (pc' := 32) (v := 1) hκ (by decide) dX10_isAhead_31 rfl ?_
      refine j_icmp_ne (tgt := 51) (pc' := 35) hκ dX10_isAhead_32 (by decide) rfl (fun c => ?_) (fun c => ?_)
      · replace h := h.1 c
        refine lb_m_isAhead_51 hκ hR _ _ _  h
      · replace h := h.2 c
        refine j_sub [0, 1] rfl ?_
        refine lb_m_isAhead_35 hκ hR _ _  h
theorem c_m_isAhead {g : Gx} (hg : Dg g) {X M : ST} {p1 : Int32} {p2 : Int32} {post : Int32 → ST → Prop} (h : wp_m_isAhead M p1 p2 post) (l : Launch) : Met l yX10_isAhead wq_X10_isAhead rm_m_isAhead (va_Pc [.ref (g.2.1 11), .int p1, .int p2] (PU g X M)) (va_Qi post (fun Y t => va_P g.1 vwCl (ww g X Y) t.heap) (wA g)) 0 0 (wA g) :=
  met_mz hg (by decide) rfl [.ref (g.2.1 11), .int p1, .int p2] rfl (Nat.le_of_ble_eq_true rfl) (fun κ hκ hR => lb_m_isAhead hκ hR h) l
theorem wm_37_3 : Cond.methodLink RX10 210 yX10_isAhead ∈ wAll := inr_37 (List.mem_of_getElem? (i := 3) rfl)
theorem wm_37_4 : Cond.instanceMethod yX10_isAhead ∈ wAll := inr_37 (List.mem_of_getElem? (i := 4) rfl)
theorem wm_37_5 : Cond.selects RX10 yX10_isAhead yX10_isAhead ∈ wAll := inr_37 (List.mem_of_getElem? (i := 5) rfl)
theorem wm_37_6 : Cond.code yX10_isAhead cX10_isAhead 3 (some .boolean) ∈ wAll := inr_37 (List.mem_of_getElem? (i := 6) rfl)
theorem hqV_X10_isAhead : yX10_isAhead.cls = RX10 ∧ yX10_isAhead.cls ≠ "java/lang/invoke/MethodHandle" ∧ yX10_isAhead.cls ≠ "java/lang/invoke/VarHandle" ∧ (parseMethodDescriptor yX10_isAhead.desc).map (fun d => d.parameters.length) = some 2 := by decide +kernel
abbrev rm_m_nextPair : Room := { frames := 3, cells := 0, slots := 0, locals := 67 }
def wp_m_nextPair_120 (K10 : ST → Int32 → Int32 → Int32 → Int32 → Prop) (post : Int32 → ST → Prop) (M : ST) (l1 : Int32) (l2 : Int32) (l3 : Int32) (l4 : Int32) : Prop :=
  (l3 < 0 → (K10 M l1 l2 l4 (l4 + 1))) ∧ (¬ l3 < 0 → (wp_m_isAhead M l4 l3 (fun r10 M9 => (r10 = 0 → (K10 M9 l1 l2 l3 (l4 + 1))) ∧ (¬ r10 = 0 → (K10 M9 l1 l2 l4 (l4 + 1))))))
set_option maxHeartbeats 4000000 in
set_option maxRecDepth 100000 in
theorem lb_m_nextPair_120 {κ : Cx} {g : Gx} {X : ST} (hκ : CF κ g RX10 cX10_nextPair wq_X10_nextPair 8 rm_m_nextPair) {post : Int32 → ST → Prop} (hR : RtmI κ g 8 cX10_nextPair X post) {K10 : ST → Int32 → Int32 → Int32 → Int32 → Prop} (hK10 : ∀ (M : ST) (l1 : Int32) (l2 : Int32) (l3 : Int32) (l4 : Int32), K10 M l1 l2 l3 l4 → Jw κ g 8 X M [(0, .ref (g.2.1 11)), (1, .int l1), (2, .int l2), (3, .int l3), (4, .int l4)] 10 []) : ∀ (M : ST) (l1 : Int32) (l2 : Int32) (l3 : Int32) (l4 : Int32), wp_m_nextPair_120 K10 post M l1 l2 l3 l4 → Jw κ g 8 X M [(0, .ref (g.2.1 11)), (1, .int l1), (2, .int l2), (3, .int l3), (4, .int l4)] 120 [] := by
  intro M l1 l2 l3 l4  h
  unfold wp_m_nextPair_120 at h
  refine j_iload_n (pc' := 121) hκ 3 rfl rfl dX10_nextPair_120 rfl ?_
  refine j_if_lt (tgt := 134) (pc' := 124) hκ dX10_nextPair_121 (by decide) rfl (fun c => ?_) (fun c => ?_)
  · replace h := h.1 c
    refine j_iload (pc' := 136) hκ 4 rfl dX10_nextPair_134 rfl ?_
    refine j_istore_n (pc' := 137) (lv' := [(3, .int l4), (0, .ref (g.2.1 11)), (1, .int l1), (2, .int l2), (4, .int l4)]) hκ (Nat.le_of_ble_eq_true rfl) rfl rfl dX10_nextPair_136 rfl ?_
    refine j_iinc (pc' := 140) (v := l4 + 1) (lv' := [(4, .int (l4 + 1)), (3, .int l4), (0, .ref (g.2.1 11)), (1, .int l1), (2, .int l2)]) hκ 4 rfl rfl (Nat.le_of_ble_eq_true rfl) rfl dX10_nextPair_137 rfl ?_
    refine j_goto (pc' := 10) hκ (by decide) dX10_nextPair_140 ?_
    refine j_sub [2, 3, 4, 1, 0] rfl ?_
    exact hK10 _ _ _ _ _  h
  · replace h := h.2 c
    refine j_aload_n (pc' := 125) hκ 0 rfl rfl dX10_nextPair_124 rfl ?_
    refine j_iload (pc' := 127) hκ 4 rfl dX10_nextPair_125 rfl ?_
    refine j_iload_n (pc' := 128) hκ 3 rfl rfl dX10_nextPair_127 rfl ?_
    refine jm_callVi (pc' := 131) hκ (c_m_isAhead (dg hκ) h) rfl rfl rfl (gV wm_37_3 wm_37_4 wm_37_5 wm_1_5 wm_37_6) hqV_X10_isAhead ⟨Nat.le_of_ble_eq_true rfl, Nat.le_of_ble_eq_true rfl⟩ (wg_11 g _ _) rfl rfl rfl (Nat.le_of_ble_eq_true rfl) dX10_nextPair_128 rfl (fun r10 M9 h => ?_)
    refine j_if_eq (tgt := 137) (pc' := 134) hκ dX10_nextPair_131 (by decide) rfl (fun c => ?_) (fun c => ?_)
    · replace h := h.1 c
      refine j_iinc (pc' := 140) (v := l4 + 1) (lv' := [(4, .int (l4 + 1)), (0, .ref (g.2.1 11)), (1, .int l1), (2, .int l2), (3, .int l3)]) hκ 4 rfl rfl (Nat.le_of_ble_eq_true rfl) rfl dX10_nextPair_137 rfl ?_
      refine j_goto (pc' := 10) hκ (by decide) dX10_nextPair_140 ?_
      refine j_sub [1, 2, 3, 4, 0] rfl ?_
      exact hK10 _ _ _ _ _  h
    · replace h := h.2 c
      refine j_iload (pc' := 136) hκ 4 rfl dX10_nextPair_134 rfl ?_
      refine j_istore_n (pc' := 137) (lv' := [(3, .int l4), (0, .ref (g.2.1 11)), (1, .int l1), (2, .int l2), (4, .int l4)]) hκ (Nat.le_of_ble_eq_true rfl) rfl rfl dX10_nextPair_136 rfl ?_
      refine j_iinc (pc' := 140) (v := l4 + 1) (lv' := [(4, .int (l4 + 1)), (3, .int l4), (0, .ref (g.2.1 11)), (1, .int l1), (2, .int l2)]) hκ 4 rfl rfl (Nat.le_of_ble_eq_true rfl) rfl dX10_nextPair_137 rfl ?_
      refine j_goto (pc' := 10) hκ (by decide) dX10_nextPair_140 ?_
      refine j_sub [2, 3, 4, 1, 0] rfl ?_
      exact hK10 _ _ _ _ _  h
def wp_m_nextPair_91 (K10 : ST → Int32 → Int32 → Int32 → Int32 → Prop) (post : Int32 → ST → Prop) (M : ST) (l1 : Int32) (l2 : Int32) (l3 : Int32) (l4 : Int32) (l5 : Int32) (l6 : Int32) (s0 : Int32) : Prop :=
  (¬ s0 = l1 → (K10 M l1 l2 l3 (l4 + 1))) ∧ (s0 = l1 → ((¬ l1 = 0 → (wp_m_nextPair_120 K10 post M l1 l2 l3 l4)) ∧ (l1 = 0 → (vp_in l5 12 ∧ (vp_in l6 12 ∧ (((m_hang M l5.toNatClampNeg) = (m_hang M l6.toNatClampNeg) → (K10 M l1 l2 l3 (l4 + 1))) ∧ (¬ (m_hang M l5.toNatClampNeg) = (m_hang M l6.toNatClampNeg) → (wp_m_nextPair_120 K10 post M l1 l2 l3 l4))))))))
set_option maxHeartbeats 4000000 in
set_option maxRecDepth 100000 in
theorem lb_m_nextPair_91 {κ : Cx} {g : Gx} {X : ST} (hκ : CF κ g RX10 cX10_nextPair wq_X10_nextPair 8 rm_m_nextPair) {post : Int32 → ST → Prop} (hR : RtmI κ g 8 cX10_nextPair X post) {K10 : ST → Int32 → Int32 → Int32 → Int32 → Prop} (hK10 : ∀ (M : ST) (l1 : Int32) (l2 : Int32) (l3 : Int32) (l4 : Int32), K10 M l1 l2 l3 l4 → Jw κ g 8 X M [(0, .ref (g.2.1 11)), (1, .int l1), (2, .int l2), (3, .int l3), (4, .int l4)] 10 []) : ∀ (M : ST) (l1 : Int32) (l2 : Int32) (l3 : Int32) (l4 : Int32) (l5 : Int32) (l6 : Int32) (s0 : Int32), wp_m_nextPair_91 K10 post M l1 l2 l3 l4 l5 l6 s0 → Jw κ g 8 X M [(0, .ref (g.2.1 11)), (1, .int l1), (2, .int l2), (3, .int l3), (4, .int l4), (5, .int l5), (6, .int l6)] 91 [.int s0] := by
  intro M l1 l2 l3 l4 l5 l6 s0  h
  unfold wp_m_nextPair_91 at h
  refine j_istore (pc' := 93) (lv' := [(7, .int s0), (0, .ref (g.2.1 11)), (1, .int l1), (2, .int l2), (3, .int l3), (4, .int l4), (5, .int l5), (6, .int l6)]) hκ (Nat.le_of_ble_eq_true rfl) rfl dX10_nextPair_91 rfl ?_
  refine j_iload (pc' := 95) hκ 0 rfl dX10_nextPair_93 rfl ?_
  refine j_iload_n (pc' := 96) hκ 2 rfl rfl dX10_nextPair_95 rfl ?_
  refine j_icmp_ne (tgt := 137) (pc' := 99) hκ dX10_nextPair_96 (by decide) rfl (fun c => ?_) (fun c => ?_)
  · replace h := h.1 c
    refine j_iinc (pc' := 140) (v := l4 + 1) (lv' := [(4, .int (l4 + 1)), (7, .int s0), (0, .ref (g.2.1 11)), (1, .int l1), (2, .int l2), (3, .int l3), (5, .int l5), (6, .int l6)]) hκ 5 rfl rfl (Nat.le_of_ble_eq_true rfl) rfl dX10_nextPair_137 rfl ?_
    refine j_goto (pc' := 10) hκ (by decide) dX10_nextPair_140 ?_
    refine j_sub [2, 3, 4, 5, 0] rfl ?_
    exact hK10 _ _ _ _ _  h
  · replace h := h.2 c
    refine j_iload_n (pc' := 100) hκ 2 rfl rfl dX10_nextPair_99 rfl ?_
    refine j_if_ne (tgt := 120) (pc' := 103) hκ dX10_nextPair_100 (by decide) rfl (fun c => ?_) (fun c => ?_)
    · replace h := h.1 c
      refine j_sub [1, 2, 3, 4, 5] rfl ?_
      refine lb_m_nextPair_120 hκ hR hK10 _ _ _ _ _  h
    · replace h := h.2 c
      refine j_aload_n (pc' := 104) hκ 1 rfl rfl dX10_nextPair_103 rfl ?_
      refine jg_11_25 (pc' := 107) hκ (mi inlX10) (fl_in hκ (mc wm_8_7)) dX10_nextPair_104 rfl ?_
      refine j_iload (pc' := 109) hκ 6 rfl dX10_nextPair_107 rfl ?_
      refine jm_iald (pc' := 110) hκ (ah_68 g) h.1 dX10_nextPair_109 rfl ?_
      replace h := h.2
      refine j_aload_n (pc' := 111) hκ 1 rfl rfl dX10_nextPair_110 rfl ?_
      refine jg_11_25 (pc' := 114) hκ (mi inlX10) (fl_in hκ (mc wm_8_7)) dX10_nextPair_111 rfl ?_
      refine j_iload (pc' := 116) hκ 7 rfl dX10_nextPair_114 rfl ?_
      refine jm_iald (pc' := 117) hκ (ah_68 g) h.1 dX10_nextPair_116 rfl ?_
      replace h := h.2
      refine j_icmp_eq (tgt := 137) (pc' := 120) hκ dX10_nextPair_117 (by decide) rfl (fun c => ?_) (fun c => ?_)
      · replace h := h.1 c
        refine j_iinc (pc' := 140) (v := l4 + 1) (lv' := [(4, .int (l4 + 1)), (7, .int s0), (0, .ref (g.2.1 11)), (1, .int l1), (2, .int l2), (3, .int l3), (5, .int l5), (6, .int l6)]) hκ 5 rfl rfl (Nat.le_of_ble_eq_true rfl) rfl dX10_nextPair_137 rfl ?_
        refine j_goto (pc' := 10) hκ (by decide) dX10_nextPair_140 ?_
        refine j_sub [2, 3, 4, 5, 0] rfl ?_
        exact hK10 _ _ _ _ _  h
      · replace h := h.2 c
        refine j_sub [1, 2, 3, 4, 5] rfl ?_
        refine lb_m_nextPair_120 hκ hR hK10 _ _ _ _ _  h
def wp_m_nextPair_86 (K10 : ST → Int32 → Int32 → Int32 → Int32 → Prop) (post : Int32 → ST → Prop) (M : ST) (l1 : Int32) (l2 : Int32) (l3 : Int32) (l4 : Int32) (l5 : Int32) (l6 : Int32) : Prop :=
  wp_m_nextPair_91 K10 post M l1 l2 l3 l4 l5 l6 1
set_option maxHeartbeats 4000000 in
set_option maxRecDepth 100000 in
theorem lb_m_nextPair_86 {κ : Cx} {g : Gx} {X : ST} (hκ : CF κ g RX10 cX10_nextPair wq_X10_nextPair 8 rm_m_nextPair) {post : Int32 → ST → Prop} (hR : RtmI κ g 8 cX10_nextPair X post) {K10 : ST → Int32 → Int32 → Int32 → Int32 → Prop} (hK10 : ∀ (M : ST) (l1 : Int32) (l2 : Int32) (l3 : Int32) (l4 : Int32), K10 M l1 l2 l3 l4 → Jw κ g 8 X M [(0, .ref (g.2.1 11)), (1, .int l1), (2, .int l2), (3, .int l3), (4, .int l4)] 10 []) : ∀ (M : ST) (l1 : Int32) (l2 : Int32) (l3 : Int32) (l4 : Int32) (l5 : Int32) (l6 : Int32), wp_m_nextPair_86 K10 post M l1 l2 l3 l4 l5 l6 → Jw κ g 8 X M [(0, .ref (g.2.1 11)), (1, .int l1), (2, .int l2), (3, .int l3), (4, .int l4), (5, .int l5), (6, .int l6)] 86 [] := by
  intro M l1 l2 l3 l4 l5 l6  h
  unfold wp_m_nextPair_86 at h
  refine j_iconst (pc' := 87) (v := 1) hκ (by decide) dX10_nextPair_86 rfl ?_
  refine j_goto (pc' := 91) hκ (by decide) dX10_nextPair_87 ?_
  refine lb_m_nextPair_91 hκ hR hK10 _ _ _ _ _ _ _ _  h
def wp_m_nextPair_10_s (K143 : ST → Int32 → Prop) (post : Int32 → ST → Prop) (rec : ST → Int32 → Int32 → Int32 → Int32 → Prop) (M : ST) (l1 : Int32) (l2 : Int32) (l3 : Int32) (l4 : Int32) : Prop :=
  (144 ≤ l4 → (K143 M l3)) ∧ (¬ 144 ≤ l4 → (wp_m_isPair M l4 (fun r4 M3 => (r4 = 0 → (rec M3 l1 l2 l3 (l4 + 1))) ∧ (¬ r4 = 0 → (vp_in l4 144 ∧ (((m_pairs M3 l4.toNatClampNeg) = 2 → (rec M3 l1 l2 l3 (l4 + 1))) ∧ (¬ (m_pairs M3 l4.toNatClampNeg) = 2 → (wp_m_hasWay M3 l4 (fun r6 M5 => (r6 = 0 → (rec M5 l1 l2 l3 (l4 + 1))) ∧ (¬ r6 = 0 → (vp_in l4 144 ∧ (((m_isTaken M5 l4.toNatClampNeg) = 0 → (∀ v7 : Int32, v7 = l4 / 12 → ∀ v8 : Int32, v8 = l4 - l4 / 12 * 12 → (v7 = l2 → (wp_m_nextPair_86 rec post M5 l1 l2 l3 l4 v7 v8)) ∧ (¬ v7 = l2 → ((¬ v8 = l2 → (wp_m_nextPair_91 rec post M5 l1 l2 l3 l4 v7 v8 0)) ∧ (v8 = l2 → (wp_m_nextPair_86 rec post M5 l1 l2 l3 l4 v7 v8)))))) ∧ (¬ (m_isTaken M5 l4.toNatClampNeg) = 0 → (rec M5 l1 l2 l3 (l4 + 1)))))))))))))))
def wp_m_nextPair_10 (K143 : ST → Int32 → Prop) (post : Int32 → ST → Prop) : Nat → ST → Int32 → Int32 → Int32 → Int32 → Prop
  | 0 => fun _ _ _ _ _ => False
  | n + 1 => wp_m_nextPair_10_s K143 post (wp_m_nextPair_10 K143 post n)
set_option maxHeartbeats 4000000 in
set_option maxRecDepth 100000 in
theorem lb_m_nextPair_10 {κ : Cx} {g : Gx} {X : ST} (hκ : CF κ g RX10 cX10_nextPair wq_X10_nextPair 8 rm_m_nextPair) {post : Int32 → ST → Prop} (hR : RtmI κ g 8 cX10_nextPair X post) {K143 : ST → Int32 → Prop} (hK143 : ∀ (M : ST) (l3 : Int32), K143 M l3 → Jw κ g 8 X M [(3, .int l3)] 143 []) : ∀ (n : Nat) (M : ST) (l1 : Int32) (l2 : Int32) (l3 : Int32) (l4 : Int32), wp_m_nextPair_10 K143 post n M l1 l2 l3 l4 → Jw κ g 8 X M [(0, .ref (g.2.1 11)), (1, .int l1), (2, .int l2), (3, .int l3), (4, .int l4)] 10 [] := by
  intro n
  induction n with
  | zero =>
    intro M l1 l2 l3 l4  h
    exact h.elim
  | succ n ih =>
    intro M l1 l2 l3 l4  h
    have h : wp_m_nextPair_10_s K143 post (wp_m_nextPair_10 K143 post n) M l1 l2 l3 l4 := h
    unfold wp_m_nextPair_10_s at h
    refine j_iload (pc' := 12) hκ 4 rfl dX10_nextPair_10 rfl ?_
    refine j_sipush (pc' := 15) (v := 144) hκ (by decide) dX10_nextPair_12 rfl ?_
    refine j_icmp_ge (tgt := 143) (pc' := 18) hκ dX10_nextPair_15 (by decide) rfl (fun c => ?_) (fun c => ?_)
    · replace h := h.1 c
      refine j_sub [3] rfl ?_
      exact hK143 _ _  h
    · replace h := h.2 c
      refine j_aload_n (pc' := 19) hκ 0 rfl rfl dX10_nextPair_18 rfl ?_
      refine j_iload (pc' := 21) hκ 4 rfl dX10_nextPair_19 rfl ?_
      refine jm_callVi (pc' := 24) hκ (c_m_isPair (dg hκ) h) rfl rfl rfl (gV wm_36_19 wm_36_20 wm_36_21 wm_1_5 wm_36_22) hqV_X10_isPair ⟨Nat.le_of_ble_eq_true rfl, Nat.le_of_ble_eq_true rfl⟩ (wg_11 g _ _) rfl rfl rfl (Nat.le_of_ble_eq_true rfl) dX10_nextPair_21 rfl (fun r4 M3 h => ?_)
      refine j_if_eq (tgt := 137) (pc' := 27) hκ dX10_nextPair_24 (by decide) rfl (fun c => ?_) (fun c => ?_)
      · replace h := h.1 c
        refine j_iinc (pc' := 140) (v := l4 + 1) (lv' := [(4, .int (l4 + 1)), (0, .ref (g.2.1 11)), (1, .int l1), (2, .int l2), (3, .int l3)]) hκ 4 rfl rfl (Nat.le_of_ble_eq_true rfl) rfl dX10_nextPair_137 rfl ?_
        refine j_goto (pc' := 10) hκ (by decide) dX10_nextPair_140 ?_
        refine j_sub [1, 2, 3, 4, 0] rfl ?_
        exact ih _ _ _ _ _  h
      · replace h := h.2 c
        refine j_aload_n (pc' := 28) hκ 0 rfl rfl dX10_nextPair_27 rfl ?_
        refine jg_11_24 (pc' := 31) hκ (mi inlX10) (fl_in hκ (mc wm_8_6)) dX10_nextPair_28 rfl ?_
        refine j_iload (pc' := 33) hκ 4 rfl dX10_nextPair_31 rfl ?_
        refine jm_iald (pc' := 34) hκ (ah_67 g) h.1 dX10_nextPair_33 rfl ?_
        replace h := h.2
        refine j_iconst (pc' := 35) (v := 2) hκ (by decide) dX10_nextPair_34 rfl ?_
        refine j_icmp_eq (tgt := 137) (pc' := 38) hκ dX10_nextPair_35 (by decide) rfl (fun c => ?_) (fun c => ?_)
        · replace h := h.1 c
          refine j_iinc (pc' := 140) (v := l4 + 1) (lv' := [(4, .int (l4 + 1)), (0, .ref (g.2.1 11)), (1, .int l1), (2, .int l2), (3, .int l3)]) hκ 4 rfl rfl (Nat.le_of_ble_eq_true rfl) rfl dX10_nextPair_137 rfl ?_
          refine j_goto (pc' := 10) hκ (by decide) dX10_nextPair_140 ?_
          refine j_sub [1, 2, 3, 4, 0] rfl ?_
          exact ih _ _ _ _ _  h
        · replace h := h.2 c
          refine j_aload_n (pc' := 39) hκ 0 rfl rfl dX10_nextPair_38 rfl ?_
          refine j_iload (pc' := 41) hκ 4 rfl dX10_nextPair_39 rfl ?_
          refine jm_callVi (pc' := 44) hκ (c_m_hasWay (dg hκ) h) rfl rfl rfl (gV wm_36_23 wm_37_0 wm_37_1 wm_1_5 wm_37_2) hqV_X10_hasWay ⟨Nat.le_of_ble_eq_true rfl, Nat.le_of_ble_eq_true rfl⟩ (wg_11 g _ _) rfl rfl rfl (Nat.le_of_ble_eq_true rfl) dX10_nextPair_41 rfl (fun r6 M5 h => ?_)
          refine j_if_eq (tgt := 137) (pc' := 47) hκ dX10_nextPair_44 (by decide) rfl (fun c => ?_) (fun c => ?_)
          · replace h := h.1 c
            refine j_iinc (pc' := 140) (v := l4 + 1) (lv' := [(4, .int (l4 + 1)), (0, .ref (g.2.1 11)), (1, .int l1), (2, .int l2), (3, .int l3)]) hκ 4 rfl rfl (Nat.le_of_ble_eq_true rfl) rfl dX10_nextPair_137 rfl ?_
            refine j_goto (pc' := 10) hκ (by decide) dX10_nextPair_140 ?_
            refine j_sub [1, 2, 3, 4, 0] rfl ?_
            exact ih _ _ _ _ _  h
          · replace h := h.2 c
            refine j_aload_n (pc' := 48) hκ 0 rfl rfl dX10_nextPair_47 rfl ?_
            refine jg_11_28 (pc' := 51) hκ (mi inlX10) (fl_in hκ (mc wm_8_9)) dX10_nextPair_48 rfl ?_
            refine j_iload (pc' := 53) hκ 4 rfl dX10_nextPair_51 rfl ?_
            refine jm_zald (pc' := 54) hκ (ah_70 g) h.1 dX10_nextPair_53 rfl ?_
            replace h := h.2
            refine j_if_eq (tgt := 60) (pc' := 57) hκ dX10_nextPair_54 (by decide) rfl (fun c => ?_) (fun c => ?_)
            · replace h := h.1 c
              refine j_iload (pc' := 62) hκ 4 rfl dX10_nextPair_60 rfl ?_
              refine j_bipush (pc' := 64) (v := 12) hκ (by decide) dX10_nextPair_62 rfl ?_
              refine j_idiv (pc' := 65) hκ (by decide) dX10_nextPair_64 rfl ?_
              refine j_topi (fun v7 ev7 => ?_)
              replace h := h v7 ev7
              refine j_istore (pc' := 67) (lv' := [(5, .int v7), (0, .ref (g.2.1 11)), (1, .int l1), (2, .int l2), (3, .int l3), (4, .int l4)]) hκ (Nat.le_of_ble_eq_true rfl) rfl dX10_nextPair_65 rfl ?_
              refine j_iload (pc' := 69) hκ 5 rfl dX10_nextPair_67 rfl ?_
              refine j_bipush (pc' := 71) (v := 12) hκ (by decide) dX10_nextPair_69 rfl ?_
              refine j_irem (pc' := 72) hκ (by decide) dX10_nextPair_71 rfl ?_
              refine j_topi (fun v8 ev8 => ?_)
              replace h := h v8 ev8
              refine j_istore (pc' := 74) (lv' := [(6, .int v8), (5, .int v7), (0, .ref (g.2.1 11)), (1, .int l1), (2, .int l2), (3, .int l3), (4, .int l4)]) hκ (Nat.le_of_ble_eq_true rfl) rfl dX10_nextPair_72 rfl ?_
              refine j_iload (pc' := 76) hκ 1 rfl dX10_nextPair_74 rfl ?_
              refine j_iload_n (pc' := 77) hκ 4 rfl rfl dX10_nextPair_76 rfl ?_
              refine j_icmp_eq (tgt := 86) (pc' := 80) hκ dX10_nextPair_77 (by decide) rfl (fun c => ?_) (fun c => ?_)
              · replace h := h.1 c
                refine j_sub [2, 3, 4, 5, 6, 1, 0] rfl ?_
                refine lb_m_nextPair_86 hκ hR ih _ _ _ _ _ _ _  h
              · replace h := h.2 c
                refine j_iload (pc' := 82) hκ 0 rfl dX10_nextPair_80 rfl ?_
                refine j_iload_n (pc' := 83) hκ 4 rfl rfl dX10_nextPair_82 rfl ?_
                refine j_icmp_ne (tgt := 90) (pc' := 86) hκ dX10_nextPair_83 (by decide) rfl (fun c => ?_) (fun c => ?_)
                · replace h := h.1 c
                  refine j_iconst (pc' := 91) (v := 0) hκ (by decide) dX10_nextPair_90 rfl ?_
                  refine j_sub [2, 3, 4, 5, 6, 1, 0] rfl ?_
                  refine lb_m_nextPair_91 hκ hR ih _ _ _ _ _ _ _ _  h
                · replace h := h.2 c
                  refine j_sub [2, 3, 4, 5, 6, 1, 0] rfl ?_
                  refine lb_m_nextPair_86 hκ hR ih _ _ _ _ _ _ _  h
            · replace h := h.2 c
              refine j_goto (pc' := 137) hκ (by decide) dX10_nextPair_57 ?_
              refine j_iinc (pc' := 140) (v := l4 + 1) (lv' := [(4, .int (l4 + 1)), (0, .ref (g.2.1 11)), (1, .int l1), (2, .int l2), (3, .int l3)]) hκ 4 rfl rfl (Nat.le_of_ble_eq_true rfl) rfl dX10_nextPair_137 rfl ?_
              refine j_goto (pc' := 10) hκ (by decide) dX10_nextPair_140 ?_
              refine j_sub [1, 2, 3, 4, 0] rfl ?_
              exact ih _ _ _ _ _  h
def wp_m_nextPair (M : ST) (p1 : Int32) (post : Int32 → ST → Prop) : Prop :=
  wp_m_first M (fun r2 M1 => ∃ n, wp_m_nextPair_10 (fun M11 v12 => post v12 M11) post n M1 p1 r2 (-1) 0)
set_option maxHeartbeats 4000000 in
set_option maxRecDepth 100000 in
theorem lb_m_nextPair {κ : Cx} {g : Gx} {X : ST} (hκ : CF κ g RX10 cX10_nextPair wq_X10_nextPair 8 rm_m_nextPair) {post : Int32 → ST → Prop} (hR : RtmI κ g 8 cX10_nextPair X post) {M : ST} {p1 : Int32} (h : wp_m_nextPair M p1 post) : Jw κ g 8 X M [(0, .ref (g.2.1 11)), (1, .int p1)] 0 [] := by
  unfold wp_m_nextPair at h
  refine j_aload_n (pc' := 1) hκ 0 rfl rfl dX10_nextPair_0 rfl ?_
  refine jm_callVi (pc' := 4) hκ (c_m_first (dg hκ) h) rfl rfl rfl (gV wm_36_15 wm_36_16 wm_36_17 wm_1_5 wm_36_18) hqV_X10_first ⟨Nat.le_of_ble_eq_true rfl, Nat.le_of_ble_eq_true rfl⟩ (wg_11 g _ _) rfl rfl rfl (Nat.le_of_ble_eq_true rfl) dX10_nextPair_1 rfl (fun r2 M1 h => ?_)
  refine j_istore_n (pc' := 5) (lv' := [(2, .int r2), (0, .ref (g.2.1 11)), (1, .int p1)]) hκ (Nat.le_of_ble_eq_true rfl) rfl rfl dX10_nextPair_4 rfl ?_
  refine j_iconst (pc' := 6) (v := (-1)) hκ (by decide) dX10_nextPair_5 rfl ?_
  refine j_istore_n (pc' := 7) (lv' := [(3, .int (-1)), (2, .int r2), (0, .ref (g.2.1 11)), (1, .int p1)]) hκ (Nat.le_of_ble_eq_true rfl) rfl rfl dX10_nextPair_6 rfl ?_
  refine j_iconst (pc' := 8) (v := 0) hκ (by decide) dX10_nextPair_7 rfl ?_
  refine j_istore (pc' := 10) (lv' := [(4, .int 0), (3, .int (-1)), (2, .int r2), (0, .ref (g.2.1 11)), (1, .int p1)]) hκ (Nat.le_of_ble_eq_true rfl) rfl dX10_nextPair_8 rfl ?_
  obtain ⟨n, h⟩ := h
  refine j_sub [3, 4, 2, 1, 0] rfl ?_
  refine lb_m_nextPair_10 hκ hR ?_ n _ _ _ _ _  h
  intro M11 v12  h
  refine j_iload_n (pc' := 144) hκ 0 rfl rfl dX10_nextPair_143 rfl ?_
  exact hR _ _ _ _ dX10_nextPair_144 h
theorem c_m_nextPair {g : Gx} (hg : Dg g) {X M : ST} {p1 : Int32} {post : Int32 → ST → Prop} (h : wp_m_nextPair M p1 post) (l : Launch) : Met l yX10_nextPair wq_X10_nextPair rm_m_nextPair (va_Pc [.ref (g.2.1 11), .int p1] (PU g X M)) (va_Qi post (fun Y t => va_P g.1 vwCl (ww g X Y) t.heap) (wA g)) 0 0 (wA g) :=
  met_mi hg (by decide) rfl [.ref (g.2.1 11), .int p1] rfl (Nat.le_of_ble_eq_true rfl) (fun κ hκ hR => lb_m_nextPair hκ hR h) l
theorem wm_36_11 : Cond.methodLink RX10 217 yX10_nextPair ∈ wAll := inr_36 (List.mem_of_getElem? (i := 11) rfl)
theorem wm_36_12 : Cond.instanceMethod yX10_nextPair ∈ wAll := inr_36 (List.mem_of_getElem? (i := 12) rfl)
theorem wm_36_13 : Cond.selects RX10 yX10_nextPair yX10_nextPair ∈ wAll := inr_36 (List.mem_of_getElem? (i := 13) rfl)
theorem wm_36_14 : Cond.code yX10_nextPair cX10_nextPair 8 (some .int) ∈ wAll := inr_36 (List.mem_of_getElem? (i := 14) rfl)
theorem hqV_X10_nextPair : yX10_nextPair.cls = RX10 ∧ yX10_nextPair.cls ≠ "java/lang/invoke/MethodHandle" ∧ yX10_nextPair.cls ≠ "java/lang/invoke/VarHandle" ∧ (parseMethodDescriptor yX10_nextPair.desc).map (fun d => d.parameters.length) = some 1 := by decide +kernel
theorem wm_8_8 : Cond.fieldLink RX10 78 "LampRoundModel" "takenPair" "[I" ∈ wAll := inr_8 (List.mem_of_getElem? (i := 8) rfl)
abbrev rm_m_take : Room := { frames := 0, cells := 0, slots := 0, locals := 0 }
def wp_m_take_50_s (K92 : ST → Prop) (post : ST → Prop) (rec : ST → Int32 → Int32 → Int32 → Prop) (M : ST) (l2 : Int32) (l3 : Int32) (l4 : Int32) : Prop :=
  (12 ≤ l4 → (K92 M)) ∧ (¬ 12 ≤ l4 → (vp_in l4 12 ∧ ((¬ (m_hang M l4.toNatClampNeg) = l2 → (vp_in l4 12 ∧ (vp_in l4 12 ∧ (∀ M6 : ST, M6 = ms_hang M (upd (m_hang M) l4.toNatClampNeg (m_hang M l4.toNatClampNeg)) → rec M6 l2 l3 (l4 + 1))))) ∧ ((m_hang M l4.toNatClampNeg) = l2 → (vp_in l4 12 ∧ (∀ M7 : ST, M7 = ms_hang M (upd (m_hang M) l4.toNatClampNeg l3) → rec M7 l2 l3 (l4 + 1)))))))
def wp_m_take_50 (K92 : ST → Prop) (post : ST → Prop) : Nat → ST → Int32 → Int32 → Int32 → Prop
  | 0 => fun _ _ _ _ => False
  | n + 1 => wp_m_take_50_s K92 post (wp_m_take_50 K92 post n)
set_option maxHeartbeats 4000000 in
set_option maxRecDepth 100000 in
theorem lb_m_take_50 {κ : Cx} {g : Gx} {X : ST} (hκ : CF κ g RX10 cX10_take wq_X10_take 5 rm_m_take) {post : ST → Prop} (hR : RtmV κ g 5 cX10_take X post) {K92 : ST → Prop} (hK92 : ∀ (M : ST), K92 M → Jw κ g 5 X M [] 92 []) : ∀ (n : Nat) (M : ST) (l2 : Int32) (l3 : Int32) (l4 : Int32), wp_m_take_50 K92 post n M l2 l3 l4 → Jw κ g 5 X M [(0, .ref (g.2.1 11)), (2, .int l2), (3, .int l3), (4, .int l4)] 50 [] := by
  intro n
  induction n with
  | zero =>
    intro M l2 l3 l4  h
    exact h.elim
  | succ n ih =>
    intro M l2 l3 l4  h
    have h : wp_m_take_50_s K92 post (wp_m_take_50 K92 post n) M l2 l3 l4 := h
    unfold wp_m_take_50_s at h
    refine j_iload (pc' := 52) hκ 3 rfl dX10_take_50 rfl ?_
    refine j_bipush (pc' := 54) (v := 12) hκ (by decide) dX10_take_52 rfl ?_
    refine j_icmp_ge (tgt := 92) (pc' := 57) hκ dX10_take_54 (by decide) rfl (fun c => ?_) (fun c => ?_)
    · replace h := h.1 c
      refine j_sub [] rfl ?_
      exact hK92 _  h
    · replace h := h.2 c
      refine j_aload_n (pc' := 58) hκ 0 rfl rfl dX10_take_57 rfl ?_
      refine jg_11_25 (pc' := 61) hκ (mi inlX10) (fl_in hκ (mc wm_8_7)) dX10_take_58 rfl ?_
      refine j_iload (pc' := 63) hκ 3 rfl dX10_take_61 rfl ?_
      refine j_aload_n (pc' := 64) hκ 0 rfl rfl dX10_take_63 rfl ?_
      refine jg_11_25 (pc' := 67) hκ (mi inlX10) (fl_in hκ (mc wm_8_7)) dX10_take_64 rfl ?_
      refine j_iload (pc' := 69) hκ 3 rfl dX10_take_67 rfl ?_
      refine jm_iald (pc' := 70) hκ (ah_68 g) h.1 dX10_take_69 rfl ?_
      replace h := h.2
      refine j_iload_n (pc' := 71) hκ 1 rfl rfl dX10_take_70 rfl ?_
      refine j_icmp_ne (tgt := 78) (pc' := 74) hκ dX10_take_71 (by decide) rfl (fun c => ?_) (fun c => ?_)
      · replace h := h.1 c
        refine j_aload_n (pc' := 79) hκ 0 rfl rfl dX10_take_78 rfl ?_
        refine jg_11_25 (pc' := 82) hκ (mi inlX10) (fl_in hκ (mc wm_8_7)) dX10_take_79 rfl ?_
        refine j_iload (pc' := 84) hκ 3 rfl dX10_take_82 rfl ?_
        refine jm_iald (pc' := 85) hκ (ah_68 g) h.1 dX10_take_84 rfl ?_
        replace h := h.2
        refine jm_iast (pc' := 86) hκ (ah_68 g) h.1 dX10_take_85 rfl ?_
        replace h := h.2
        refine j_nmM (fun M6 eM6 => ?_)
        replace h := h M6 eM6
        refine j_iinc (pc' := 89) (v := l4 + 1) (lv' := [(4, .int (l4 + 1)), (0, .ref (g.2.1 11)), (2, .int l2), (3, .int l3)]) hκ 3 rfl rfl (Nat.le_of_ble_eq_true rfl) rfl dX10_take_86 rfl ?_
        refine j_goto (pc' := 50) hκ (by decide) dX10_take_89 ?_
        refine j_sub [1, 2, 3, 0] rfl ?_
        exact ih _ _ _ _  h
      · replace h := h.2 c
        refine j_iload_n (pc' := 75) hκ 2 rfl rfl dX10_take_74 rfl ?_
        refine j_goto (pc' := 85) hκ (by decide) dX10_take_75 ?_
        refine jm_iast (pc' := 86) hκ (ah_68 g) h.1 dX10_take_85 rfl ?_
        replace h := h.2
        refine j_nmM (fun M7 eM7 => ?_)
        replace h := h M7 eM7
        refine j_iinc (pc' := 89) (v := l4 + 1) (lv' := [(4, .int (l4 + 1)), (0, .ref (g.2.1 11)), (2, .int l2), (3, .int l3)]) hκ 3 rfl rfl (Nat.le_of_ble_eq_true rfl) rfl dX10_take_86 rfl ?_
        refine j_goto (pc' := 50) hκ (by decide) dX10_take_89 ?_
        refine j_sub [1, 2, 3, 0] rfl ?_
        exact ih _ _ _ _  h
def wp_m_take (M : ST) (p1 : Int32) (post : ST → Prop) : Prop :=
  vp_in p1 144 ∧ (∀ M1 : ST, M1 = ms_isTaken M (upd (m_isTaken M) p1.toNatClampNeg (vp_nar .boolean 1)) → vp_in (m_taken M1) 24 ∧ (∀ M2 : ST, M2 = ms_takenPair M1 (upd (m_takenPair M1) (m_taken M1).toNatClampNeg p1) → ∀ M3 : ST, M3 = ms_taken M2 ((m_taken M2) + 1) → vp_in (p1 / 12) 12 ∧ (∀ v4 : Int32, v4 = m_hang M3 (p1 / 12).toNatClampNeg → vp_in (p1 - p1 / 12 * 12) 12 ∧ (∀ v5 : Int32, v5 = m_hang M3 (p1 - p1 / 12 * 12).toNatClampNeg → ∃ n, wp_m_take_50 (fun M8 => post M8) post n M3 v4 v5 0))))
set_option maxHeartbeats 4000000 in
set_option maxRecDepth 100000 in
theorem lb_m_take {κ : Cx} {g : Gx} {X : ST} (hκ : CF κ g RX10 cX10_take wq_X10_take 5 rm_m_take) {post : ST → Prop} (hR : RtmV κ g 5 cX10_take X post) {M : ST} {p1 : Int32} (h : wp_m_take M p1 post) : Jw κ g 5 X M [(0, .ref (g.2.1 11)), (1, .int p1)] 0 [] := by
  unfold wp_m_take at h
  refine j_aload_n (pc' := 1) hκ 0 rfl rfl dX10_take_0 rfl ?_
  refine jg_11_28 (pc' := 4) hκ (mi inlX10) (fl_in hκ (mc wm_8_9)) dX10_take_1 rfl ?_
  refine j_iload_n (pc' := 5) hκ 1 rfl rfl dX10_take_4 rfl ?_
  refine j_iconst (pc' := 6) (v := 1) hκ (by decide) dX10_take_5 rfl ?_
  refine jm_zast (pc' := 7) hκ (ah_70 g) h.1 dX10_take_6 rfl ?_
  replace h := h.2
  refine j_nmM (fun M1 eM1 => ?_)
  replace h := h M1 eM1
  refine j_aload_n (pc' := 8) hκ 0 rfl rfl dX10_take_7 rfl ?_
  refine jg_11_26 (pc' := 11) hκ (mi inlX10) (fl_in hκ (mc wm_8_8)) dX10_take_8 rfl ?_
  refine j_aload_n (pc' := 12) hκ 0 rfl rfl dX10_take_11 rfl ?_
  refine jg_11_27 (pc' := 15) hκ (mi inlX10) (fl_in hκ (mc wm_36_1)) dX10_take_12 rfl ?_
  refine j_iload_n (pc' := 16) hκ 1 rfl rfl dX10_take_15 rfl ?_
  refine jm_iast (pc' := 17) hκ (ah_69 g) h.1 dX10_take_16 rfl ?_
  replace h := h.2
  refine j_nmM (fun M2 eM2 => ?_)
  replace h := h M2 eM2
  refine j_aload_n (pc' := 18) hκ 0 rfl rfl dX10_take_17 rfl ?_
  refine j_dup (pc' := 19) hκ rfl dX10_take_18 rfl ?_
  refine jg_11_27 (pc' := 22) hκ (mi inlX10) (fl_in hκ (mc wm_36_1)) dX10_take_19 rfl ?_
  refine j_iconst (pc' := 23) (v := 1) hκ (by decide) dX10_take_22 rfl ?_
  refine j_iadd (pc' := 24) hκ dX10_take_23 rfl ?_
  refine jp_11_27 (pc' := 27) hκ (mi inlX10) (fl_in hκ (mc wm_36_1)) dX10_take_24 rfl ?_
  refine j_nmM (fun M3 eM3 => ?_)
  replace h := h M3 eM3
  refine j_aload_n (pc' := 28) hκ 0 rfl rfl dX10_take_27 rfl ?_
  refine jg_11_25 (pc' := 31) hκ (mi inlX10) (fl_in hκ (mc wm_8_7)) dX10_take_28 rfl ?_
  refine j_iload_n (pc' := 32) hκ 1 rfl rfl dX10_take_31 rfl ?_
  refine j_bipush (pc' := 34) (v := 12) hκ (by decide) dX10_take_32 rfl ?_
  refine j_idiv (pc' := 35) hκ (by decide) dX10_take_34 rfl ?_
  refine jm_iald (pc' := 36) hκ (ah_68 g) h.1 dX10_take_35 rfl ?_
  replace h := h.2
  refine j_topi (fun v4 ev4 => ?_)
  replace h := h v4 ev4
  refine j_istore_n (pc' := 37) (lv' := [(2, .int v4), (0, .ref (g.2.1 11)), (1, .int p1)]) hκ (Nat.le_of_ble_eq_true rfl) rfl rfl dX10_take_36 rfl ?_
  refine j_aload_n (pc' := 38) hκ 1 rfl rfl dX10_take_37 rfl ?_
  refine jg_11_25 (pc' := 41) hκ (mi inlX10) (fl_in hκ (mc wm_8_7)) dX10_take_38 rfl ?_
  refine j_iload_n (pc' := 42) hκ 2 rfl rfl dX10_take_41 rfl ?_
  refine j_bipush (pc' := 44) (v := 12) hκ (by decide) dX10_take_42 rfl ?_
  refine j_irem (pc' := 45) hκ (by decide) dX10_take_44 rfl ?_
  refine jm_iald (pc' := 46) hκ (ah_68 g) h.1 dX10_take_45 rfl ?_
  replace h := h.2
  refine j_topi (fun v5 ev5 => ?_)
  replace h := h v5 ev5
  refine j_istore_n (pc' := 47) (lv' := [(3, .int v5), (2, .int v4), (0, .ref (g.2.1 11)), (1, .int p1)]) hκ (Nat.le_of_ble_eq_true rfl) rfl rfl dX10_take_46 rfl ?_
  refine j_iconst (pc' := 48) (v := 0) hκ (by decide) dX10_take_47 rfl ?_
  refine j_istore (pc' := 50) (lv' := [(4, .int 0), (3, .int v5), (2, .int v4), (0, .ref (g.2.1 11)), (1, .int p1)]) hκ (Nat.le_of_ble_eq_true rfl) rfl dX10_take_48 rfl ?_
  obtain ⟨n, h⟩ := h
  refine j_sub [3, 2, 1, 0] rfl ?_
  refine lb_m_take_50 hκ hR ?_ n _ _ _ _  h
  intro M8  h
  exact hR _ _ _ dX10_take_92 h
theorem c_m_take {g : Gx} (hg : Dg g) {X M : ST} {p1 : Int32} {post : ST → Prop} (h : wp_m_take M p1 post) (l : Launch) : Met l yX10_take wq_X10_take rm_m_take (va_Pc [.ref (g.2.1 11), .int p1] (PU g X M)) (va_Qv post (fun Y t => va_P g.1 vwCl (ww g X Y) t.heap) (wA g)) 0 0 (wA g) :=
  met_mv hg (by decide) rfl [.ref (g.2.1 11), .int p1] rfl (Nat.le_of_ble_eq_true rfl) (fun κ hκ hR => lb_m_take hκ hR h) l
theorem wm_37_11 : Cond.methodLink RX10 221 yX10_take ∈ wAll := inr_37 (List.mem_of_getElem? (i := 11) rfl)
theorem wm_37_12 : Cond.instanceMethod yX10_take ∈ wAll := inr_37 (List.mem_of_getElem? (i := 12) rfl)
theorem wm_37_13 : Cond.selects RX10 yX10_take yX10_take ∈ wAll := inr_37 (List.mem_of_getElem? (i := 13) rfl)
theorem wm_37_14 : Cond.code yX10_take cX10_take 5 none ∈ wAll := inr_37 (List.mem_of_getElem? (i := 14) rfl)
theorem hqV_X10_take : yX10_take.cls = RX10 ∧ yX10_take.cls ≠ "java/lang/invoke/MethodHandle" ∧ yX10_take.cls ≠ "java/lang/invoke/VarHandle" ∧ (parseMethodDescriptor yX10_take.desc).map (fun d => d.parameters.length) = some 1 := by decide +kernel
theorem wm_36_10 : Cond.constantLong RX10 225 (2) ∈ wAll := inr_36 (List.mem_of_getElem? (i := 10) rfl)
theorem wm_36_0 : Cond.constantLong RX10 227 (4611686018427387904) ∈ wAll := inr_36 (List.mem_of_getElem? (i := 0) rfl)
abbrev rm_m_tree : Room := { frames := 4, cells := 0, slots := 0, locals := 94 }
def wp_m_tree_7_s (K27 : ST → Prop) (post : Int64 → ST → Prop) (rec : ST → Int32 → Prop) (M : ST) (l1 : Int32) : Prop :=
  (144 ≤ l1 → (K27 M)) ∧ (¬ 144 ≤ l1 → (vp_in l1 144 ∧ (∀ M2 : ST, M2 = ms_isTaken M (upd (m_isTaken M) l1.toNatClampNeg (vp_nar .boolean 0)) → rec M2 (l1 + 1))))
def wp_m_tree_7 (K27 : ST → Prop) (post : Int64 → ST → Prop) : Nat → ST → Int32 → Prop
  | 0 => fun _ _ => False
  | n + 1 => wp_m_tree_7_s K27 post (wp_m_tree_7 K27 post n)
set_option maxHeartbeats 4000000 in
set_option maxRecDepth 100000 in
theorem lb_m_tree_7 {κ : Cx} {g : Gx} {X : ST} (hκ : CF κ g RX10 cX10_tree wq_X10_tree 7 rm_m_tree) {post : Int64 → ST → Prop} (hR : RtmL κ g 7 cX10_tree X post) {K27 : ST → Prop} (hK27 : ∀ (M : ST), K27 M → Jw κ g 7 X M [(0, .ref (g.2.1 11))] 27 []) : ∀ (n : Nat) (M : ST) (l1 : Int32), wp_m_tree_7 K27 post n M l1 → Jw κ g 7 X M [(0, .ref (g.2.1 11)), (1, .int l1)] 7 [] := by
  intro n
  induction n with
  | zero =>
    intro M l1  h
    exact h.elim
  | succ n ih =>
    intro M l1  h
    have h : wp_m_tree_7_s K27 post (wp_m_tree_7 K27 post n) M l1 := h
    unfold wp_m_tree_7_s at h
    refine j_iload_n (pc' := 8) hκ 1 rfl rfl dX10_tree_7 rfl ?_
    refine j_sipush (pc' := 11) (v := 144) hκ (by decide) dX10_tree_8 rfl ?_
    refine j_icmp_ge (tgt := 27) (pc' := 14) hκ dX10_tree_11 (by decide) rfl (fun c => ?_) (fun c => ?_)
    · replace h := h.1 c
      refine j_sub [0] rfl ?_
      exact hK27 _  h
    · replace h := h.2 c
      refine j_aload_n (pc' := 15) hκ 0 rfl rfl dX10_tree_14 rfl ?_
      refine jg_11_28 (pc' := 18) hκ (mi inlX10) (fl_in hκ (mc wm_8_9)) dX10_tree_15 rfl ?_
      refine j_iload_n (pc' := 19) hκ 1 rfl rfl dX10_tree_18 rfl ?_
      refine j_iconst (pc' := 20) (v := 0) hκ (by decide) dX10_tree_19 rfl ?_
      refine jm_zast (pc' := 21) hκ (ah_70 g) h.1 dX10_tree_20 rfl ?_
      replace h := h.2
      refine j_nmM (fun M2 eM2 => ?_)
      replace h := h M2 eM2
      refine j_iinc (pc' := 24) (v := l1 + 1) (lv' := [(1, .int (l1 + 1)), (0, .ref (g.2.1 11))]) hκ 1 rfl rfl (Nat.le_of_ble_eq_true rfl) rfl dX10_tree_21 rfl ?_
      refine j_goto (pc' := 7) hκ (by decide) dX10_tree_24 ?_
      refine j_sub [1, 0] rfl ?_
      exact ih _ _  h
def wp_m_tree_29_s (K48 : ST → Prop) (post : Int64 → ST → Prop) (rec : ST → Int32 → Prop) (M : ST) (l1 : Int32) : Prop :=
  (12 ≤ l1 → (K48 M)) ∧ (¬ 12 ≤ l1 → (vp_in l1 12 ∧ (∀ M4 : ST, M4 = ms_hang M (upd (m_hang M) l1.toNatClampNeg l1) → rec M4 (l1 + 1))))
def wp_m_tree_29 (K48 : ST → Prop) (post : Int64 → ST → Prop) : Nat → ST → Int32 → Prop
  | 0 => fun _ _ => False
  | n + 1 => wp_m_tree_29_s K48 post (wp_m_tree_29 K48 post n)
set_option maxHeartbeats 4000000 in
set_option maxRecDepth 100000 in
theorem lb_m_tree_29 {κ : Cx} {g : Gx} {X : ST} (hκ : CF κ g RX10 cX10_tree wq_X10_tree 7 rm_m_tree) {post : Int64 → ST → Prop} (hR : RtmL κ g 7 cX10_tree X post) {K48 : ST → Prop} (hK48 : ∀ (M : ST), K48 M → Jw κ g 7 X M [(0, .ref (g.2.1 11))] 48 []) : ∀ (n : Nat) (M : ST) (l1 : Int32), wp_m_tree_29 K48 post n M l1 → Jw κ g 7 X M [(0, .ref (g.2.1 11)), (1, .int l1)] 29 [] := by
  intro n
  induction n with
  | zero =>
    intro M l1  h
    exact h.elim
  | succ n ih =>
    intro M l1  h
    have h : wp_m_tree_29_s K48 post (wp_m_tree_29 K48 post n) M l1 := h
    unfold wp_m_tree_29_s at h
    refine j_iload_n (pc' := 30) hκ 1 rfl rfl dX10_tree_29 rfl ?_
    refine j_bipush (pc' := 32) (v := 12) hκ (by decide) dX10_tree_30 rfl ?_
    refine j_icmp_ge (tgt := 48) (pc' := 35) hκ dX10_tree_32 (by decide) rfl (fun c => ?_) (fun c => ?_)
    · replace h := h.1 c
      refine j_sub [0] rfl ?_
      exact hK48 _  h
    · replace h := h.2 c
      refine j_aload_n (pc' := 36) hκ 0 rfl rfl dX10_tree_35 rfl ?_
      refine jg_11_25 (pc' := 39) hκ (mi inlX10) (fl_in hκ (mc wm_8_7)) dX10_tree_36 rfl ?_
      refine j_iload_n (pc' := 40) hκ 1 rfl rfl dX10_tree_39 rfl ?_
      refine j_iload_n (pc' := 41) hκ 1 rfl rfl dX10_tree_40 rfl ?_
      refine jm_iast (pc' := 42) hκ (ah_68 g) h.1 dX10_tree_41 rfl ?_
      replace h := h.2
      refine j_nmM (fun M4 eM4 => ?_)
      replace h := h M4 eM4
      refine j_iinc (pc' := 45) (v := l1 + 1) (lv' := [(1, .int (l1 + 1)), (0, .ref (g.2.1 11))]) hκ 1 rfl rfl (Nat.le_of_ble_eq_true rfl) rfl dX10_tree_42 rfl ?_
      refine j_goto (pc' := 29) hκ (by decide) dX10_tree_45 ?_
      refine j_sub [1, 0] rfl ?_
      exact ih _ _  h
def wp_m_tree_54_s (K72 : ST → Prop) (post : Int64 → ST → Prop) (rec : ST → Int32 → Prop) (M : ST) (l1 : Int32) : Prop :=
  (l1 < 0 → (K72 M)) ∧ (¬ l1 < 0 → (wp_m_take M l1 (fun M8 => wp_m_nextPair M8 0 (fun r11 M10 => rec M10 r11))))
def wp_m_tree_54 (K72 : ST → Prop) (post : Int64 → ST → Prop) : Nat → ST → Int32 → Prop
  | 0 => fun _ _ => False
  | n + 1 => wp_m_tree_54_s K72 post (wp_m_tree_54 K72 post n)
set_option maxHeartbeats 4000000 in
set_option maxRecDepth 100000 in
theorem lb_m_tree_54 {κ : Cx} {g : Gx} {X : ST} (hκ : CF κ g RX10 cX10_tree wq_X10_tree 7 rm_m_tree) {post : Int64 → ST → Prop} (hR : RtmL κ g 7 cX10_tree X post) {K72 : ST → Prop} (hK72 : ∀ (M : ST), K72 M → Jw κ g 7 X M [(0, .ref (g.2.1 11))] 72 []) : ∀ (n : Nat) (M : ST) (l1 : Int32), wp_m_tree_54 K72 post n M l1 → Jw κ g 7 X M [(0, .ref (g.2.1 11)), (1, .int l1)] 54 [] := by
  intro n
  induction n with
  | zero =>
    intro M l1  h
    exact h.elim
  | succ n ih =>
    intro M l1  h
    have h : wp_m_tree_54_s K72 post (wp_m_tree_54 K72 post n) M l1 := h
    unfold wp_m_tree_54_s at h
    refine j_iload_n (pc' := 55) hκ 1 rfl rfl dX10_tree_54 rfl ?_
    refine j_if_lt (tgt := 72) (pc' := 58) hκ dX10_tree_55 (by decide) rfl (fun c => ?_) (fun c => ?_)
    · replace h := h.1 c
      refine j_sub [0] rfl ?_
      exact hK72 _  h
    · replace h := h.2 c
      refine j_aload_n (pc' := 59) hκ 0 rfl rfl dX10_tree_58 rfl ?_
      refine j_iload_n (pc' := 60) hκ 1 rfl rfl dX10_tree_59 rfl ?_
      refine jm_callVv (pc' := 63) hκ (c_m_take (dg hκ) h) rfl rfl rfl (gV wm_37_11 wm_37_12 wm_37_13 wm_1_5 wm_37_14) hqV_X10_take ⟨Nat.le_of_ble_eq_true rfl, Nat.le_of_ble_eq_true rfl⟩ (wg_11 g _ _) rfl rfl rfl (Nat.le_of_ble_eq_true rfl) dX10_tree_60 rfl (fun M8 h => ?_)
      refine j_aload_n (pc' := 64) hκ 0 rfl rfl dX10_tree_63 rfl ?_
      refine j_iconst (pc' := 65) (v := 0) hκ (by decide) dX10_tree_64 rfl ?_
      refine jm_callVi (pc' := 68) hκ (c_m_nextPair (dg hκ) h) rfl rfl rfl (gV wm_36_11 wm_36_12 wm_36_13 wm_1_5 wm_36_14) hqV_X10_nextPair ⟨Nat.le_of_ble_eq_true rfl, Nat.le_of_ble_eq_true rfl⟩ (wg_11 g _ _) rfl rfl rfl (Nat.le_of_ble_eq_true rfl) dX10_tree_65 rfl (fun r11 M10 h => ?_)
      refine j_istore_n (pc' := 69) (lv' := [(1, .int r11), (0, .ref (g.2.1 11))]) hκ (Nat.le_of_ble_eq_true rfl) rfl rfl dX10_tree_68 rfl ?_
      refine j_goto (pc' := 54) hκ (by decide) dX10_tree_69 ?_
      refine j_sub [1, 0] rfl ?_
      exact ih _ _  h
def wp_m_tree_80_s (K106 : ST → Int32 → Prop) (post : Int64 → ST → Prop) (rec : ST → Int32 → Int32 → Prop) (M : ST) (l1 : Int32) (l2 : Int32) : Prop :=
  (l1 < 0 → (K106 M l2)) ∧ (¬ l1 < 0 → ((2 ≤ l2 → (K106 M l2)) ∧ (¬ 2 ≤ l2 → (wp_m_take M l1 (fun M15 => wp_m_nextPair M15 1 (fun r18 M17 => rec M17 r18 (l2 + 1)))))))
def wp_m_tree_80 (K106 : ST → Int32 → Prop) (post : Int64 → ST → Prop) : Nat → ST → Int32 → Int32 → Prop
  | 0 => fun _ _ _ => False
  | n + 1 => wp_m_tree_80_s K106 post (wp_m_tree_80 K106 post n)
set_option maxHeartbeats 4000000 in
set_option maxRecDepth 100000 in
theorem lb_m_tree_80 {κ : Cx} {g : Gx} {X : ST} (hκ : CF κ g RX10 cX10_tree wq_X10_tree 7 rm_m_tree) {post : Int64 → ST → Prop} (hR : RtmL κ g 7 cX10_tree X post) {K106 : ST → Int32 → Prop} (hK106 : ∀ (M : ST) (l2 : Int32), K106 M l2 → Jw κ g 7 X M [(0, .ref (g.2.1 11)), (2, .int l2)] 106 []) : ∀ (n : Nat) (M : ST) (l1 : Int32) (l2 : Int32), wp_m_tree_80 K106 post n M l1 l2 → Jw κ g 7 X M [(0, .ref (g.2.1 11)), (1, .int l1), (2, .int l2)] 80 [] := by
  intro n
  induction n with
  | zero =>
    intro M l1 l2  h
    exact h.elim
  | succ n ih =>
    intro M l1 l2  h
    have h : wp_m_tree_80_s K106 post (wp_m_tree_80 K106 post n) M l1 l2 := h
    unfold wp_m_tree_80_s at h
    refine j_iload_n (pc' := 81) hκ 1 rfl rfl dX10_tree_80 rfl ?_
    refine j_if_lt (tgt := 106) (pc' := 84) hκ dX10_tree_81 (by decide) rfl (fun c => ?_) (fun c => ?_)
    · replace h := h.1 c
      refine j_sub [0, 2] rfl ?_
      exact hK106 _ _  h
    · replace h := h.2 c
      refine j_iload_n (pc' := 85) hκ 2 rfl rfl dX10_tree_84 rfl ?_
      refine j_iconst (pc' := 86) (v := 2) hκ (by decide) dX10_tree_85 rfl ?_
      refine j_icmp_ge (tgt := 106) (pc' := 89) hκ dX10_tree_86 (by decide) rfl (fun c => ?_) (fun c => ?_)
      · replace h := h.1 c
        refine j_sub [0, 2] rfl ?_
        exact hK106 _ _  h
      · replace h := h.2 c
        refine j_aload_n (pc' := 90) hκ 0 rfl rfl dX10_tree_89 rfl ?_
        refine j_iload_n (pc' := 91) hκ 1 rfl rfl dX10_tree_90 rfl ?_
        refine jm_callVv (pc' := 94) hκ (c_m_take (dg hκ) h) rfl rfl rfl (gV wm_37_11 wm_37_12 wm_37_13 wm_1_5 wm_37_14) hqV_X10_take ⟨Nat.le_of_ble_eq_true rfl, Nat.le_of_ble_eq_true rfl⟩ (wg_11 g _ _) rfl rfl rfl (Nat.le_of_ble_eq_true rfl) dX10_tree_91 rfl (fun M15 h => ?_)
        refine j_iinc (pc' := 97) (v := l2 + 1) (lv' := [(2, .int (l2 + 1)), (0, .ref (g.2.1 11)), (1, .int l1)]) hκ 2 rfl rfl (Nat.le_of_ble_eq_true rfl) rfl dX10_tree_94 rfl ?_
        refine j_aload_n (pc' := 98) hκ 1 rfl rfl dX10_tree_97 rfl ?_
        refine j_iconst (pc' := 99) (v := 1) hκ (by decide) dX10_tree_98 rfl ?_
        refine jm_callVi (pc' := 102) hκ (c_m_nextPair (dg hκ) h) rfl rfl rfl (gV wm_36_11 wm_36_12 wm_36_13 wm_1_5 wm_36_14) hqV_X10_nextPair ⟨Nat.le_of_ble_eq_true rfl, Nat.le_of_ble_eq_true rfl⟩ (wg_11 g _ _) rfl rfl rfl (Nat.le_of_ble_eq_true rfl) dX10_tree_99 rfl (fun r18 M17 h => ?_)
        refine j_istore_n (pc' := 103) (lv' := [(1, .int r18), (2, .int (l2 + 1)), (0, .ref (g.2.1 11))]) hκ (Nat.le_of_ble_eq_true rfl) rfl rfl dX10_tree_102 rfl ?_
        refine j_goto (pc' := 80) hκ (by decide) dX10_tree_103 ?_
        refine j_sub [2, 0, 1] rfl ?_
        exact ih _ _ _  h
def wp_m_tree_111_s (K140 : ST → Int32 → Int64 → Prop) (post : Int64 → ST → Prop) (rec : ST → Int32 → Int64 → Int32 → Prop) (M : ST) (l2 : Int32) (l3 : Int64) (l5 : Int32) : Prop :=
  ((m_taken M) ≤ l5 → (K140 M l2 l3)) ∧ (¬ (m_taken M) ≤ l5 → (vp_in l5 24 ∧ (wp_m_priced M (m_takenPair M l5.toNatClampNeg) (fun r22 M21 => ∀ v23 : Int64, v23 = l3 + r22 → rec M21 l2 v23 (l5 + 1)))))
def wp_m_tree_111 (K140 : ST → Int32 → Int64 → Prop) (post : Int64 → ST → Prop) : Nat → ST → Int32 → Int64 → Int32 → Prop
  | 0 => fun _ _ _ _ => False
  | n + 1 => wp_m_tree_111_s K140 post (wp_m_tree_111 K140 post n)
set_option maxHeartbeats 4000000 in
set_option maxRecDepth 100000 in
theorem lb_m_tree_111 {κ : Cx} {g : Gx} {X : ST} (hκ : CF κ g RX10 cX10_tree wq_X10_tree 7 rm_m_tree) {post : Int64 → ST → Prop} (hR : RtmL κ g 7 cX10_tree X post) {K140 : ST → Int32 → Int64 → Prop} (hK140 : ∀ (M : ST) (l2 : Int32) (l3 : Int64), K140 M l2 l3 → Jw κ g 7 X M [(0, .ref (g.2.1 11)), (2, .int l2), (3, .long l3)] 140 []) : ∀ (n : Nat) (M : ST) (l2 : Int32) (l3 : Int64) (l5 : Int32), wp_m_tree_111 K140 post n M l2 l3 l5 → Jw κ g 7 X M [(0, .ref (g.2.1 11)), (2, .int l2), (3, .long l3), (5, .int l5)] 111 [] := by
  intro n
  induction n with
  | zero =>
    intro M l2 l3 l5  h
    exact h.elim
  | succ n ih =>
    intro M l2 l3 l5  h
    have h : wp_m_tree_111_s K140 post (wp_m_tree_111 K140 post n) M l2 l3 l5 := h
    unfold wp_m_tree_111_s at h
    refine j_iload (pc' := 113) hκ 3 rfl dX10_tree_111 rfl ?_
    refine j_aload_n (pc' := 114) hκ 0 rfl rfl dX10_tree_113 rfl ?_
    refine jg_11_27 (pc' := 117) hκ (mi inlX10) (fl_in hκ (mc wm_36_1)) dX10_tree_114 rfl ?_
    refine j_icmp_ge (tgt := 140) (pc' := 120) hκ dX10_tree_117 (by decide) rfl (fun c => ?_) (fun c => ?_)
    · replace h := h.1 c
      refine j_sub [0, 1, 2] rfl ?_
      exact hK140 _ _ _  h
    · replace h := h.2 c
      refine j_lload_n (pc' := 121) hκ 2 rfl rfl dX10_tree_120 rfl ?_
      refine j_aload_n (pc' := 122) hκ 0 rfl rfl dX10_tree_121 rfl ?_
      refine j_aload_n (pc' := 123) hκ 0 rfl rfl dX10_tree_122 rfl ?_
      refine jg_11_26 (pc' := 126) hκ (mi inlX10) (fl_in hκ (mc wm_8_8)) dX10_tree_123 rfl ?_
      refine j_iload (pc' := 128) hκ 3 rfl dX10_tree_126 rfl ?_
      refine jm_iald (pc' := 129) hκ (ah_69 g) h.1 dX10_tree_128 rfl ?_
      replace h := h.2
      refine jm_callVl (pc' := 132) hκ (c_m_priced (dg hκ) h) rfl rfl rfl (gV wm_37_7 wm_37_8 wm_37_9 wm_1_5 wm_37_10) hqV_X10_priced ⟨Nat.le_of_ble_eq_true rfl, Nat.le_of_ble_eq_true rfl⟩ (wg_11 g _ _) rfl rfl rfl (Nat.le_of_ble_eq_true rfl) dX10_tree_129 rfl (fun r22 M21 h => ?_)
      refine j_ladd (pc' := 133) hκ dX10_tree_132 rfl ?_
      refine j_topl (fun v23 ev23 => ?_)
      replace h := h v23 ev23
      refine j_lstore_n (pc' := 134) (lv' := [(3, .long v23), (0, .ref (g.2.1 11)), (2, .int l2), (5, .int l5)]) hκ (Nat.le_of_ble_eq_true rfl) rfl rfl dX10_tree_133 rfl ?_
      refine j_iinc (pc' := 137) (v := l5 + 1) (lv' := [(5, .int (l5 + 1)), (3, .long v23), (0, .ref (g.2.1 11)), (2, .int l2)]) hκ 3 rfl rfl (Nat.le_of_ble_eq_true rfl) rfl dX10_tree_134 rfl ?_
      refine j_goto (pc' := 111) hκ (by decide) dX10_tree_137 ?_
      refine j_sub [2, 3, 1, 0] rfl ?_
      exact ih _ _ _ _  h
def wp_m_tree_200 (K155 : ST → Int64 → Int32 → Int32 → Prop) (post : Int64 → ST → Prop) (M : ST) (l3 : Int64) (l6 : Int32) (s0 : Int32) (s1 : Int32) : Prop :=
  ∀ v27 : Int32, v27 = s1 &&& s0 → vp_in l6 12 ∧ (((m_isOut M l6.toNatClampNeg) = 0 → (vp_in l6 12 ∧ (∀ v28 : Int64, v28 = l3 - (2 * ((m_price M l6.toNatClampNeg).toInt64)) → K155 M v28 v27 (l6 + 1)))) ∧ (¬ (m_isOut M l6.toNatClampNeg) = 0 → (∀ v29 : Int64, v29 = l3 - 0 → K155 M v29 v27 (l6 + 1))))
set_option maxHeartbeats 4000000 in
set_option maxRecDepth 100000 in
theorem lb_m_tree_200 {κ : Cx} {g : Gx} {X : ST} (hκ : CF κ g RX10 cX10_tree wq_X10_tree 7 rm_m_tree) {post : Int64 → ST → Prop} (hR : RtmL κ g 7 cX10_tree X post) {K155 : ST → Int64 → Int32 → Int32 → Prop} (hK155 : ∀ (M : ST) (l3 : Int64) (l5 : Int32) (l6 : Int32), K155 M l3 l5 l6 → Jw κ g 7 X M [(0, .ref (g.2.1 11)), (3, .long l3), (5, .int l5), (6, .int l6)] 155 []) : ∀ (M : ST) (l3 : Int64) (l6 : Int32) (s0 : Int32) (s1 : Int32), wp_m_tree_200 K155 post M l3 l6 s0 s1 → Jw κ g 7 X M [(0, .ref (g.2.1 11)), (3, .long l3), (6, .int l6)] 200 [.int s0, .int s1] := by
  intro M l3 l6 s0 s1  h
  unfold wp_m_tree_200 at h
  refine j_iand (pc' := 201) hκ dX10_tree_200 rfl ?_
  refine j_topi (fun v27 ev27 => ?_)
  replace h := h v27 ev27
  refine j_istore (pc' := 203) (lv' := [(5, .int v27), (0, .ref (g.2.1 11)), (3, .long l3), (6, .int l6)]) hκ (Nat.le_of_ble_eq_true rfl) rfl dX10_tree_201 rfl ?_
  refine j_lload_n (pc' := 204) hκ 2 rfl rfl dX10_tree_203 rfl ?_
  refine j_aload_n (pc' := 205) hκ 1 rfl rfl dX10_tree_204 rfl ?_
  refine jg_11_13 (pc' := 208) hκ (mi inlX10) (fl_in hκ (mc wm_7_21)) dX10_tree_205 rfl ?_
  refine j_iload (pc' := 210) hκ 3 rfl dX10_tree_208 rfl ?_
  refine jm_zald (pc' := 211) hκ (ah_58 g) h.1 dX10_tree_210 rfl ?_
  replace h := h.2
  refine j_if_eq (tgt := 218) (pc' := 214) hκ dX10_tree_211 (by decide) rfl (fun c => ?_) (fun c => ?_)
  · replace h := h.1 c
    refine j_ldc2_w (pc' := 221) hκ (mc wm_36_10) dX10_tree_218 rfl ?_
    refine j_aload_n (pc' := 222) hκ 1 rfl rfl dX10_tree_221 rfl ?_
    refine jg_11_14 (pc' := 225) hκ (mi inlX10) (fl_in hκ (mc wm_7_22)) dX10_tree_222 rfl ?_
    refine j_iload (pc' := 227) hκ 3 rfl dX10_tree_225 rfl ?_
    refine jm_iald (pc' := 228) hκ (ah_59 g) h.1 dX10_tree_227 rfl ?_
    replace h := h.2
    refine j_i2l (pc' := 229) hκ dX10_tree_228 rfl ?_
    refine j_lmul (pc' := 230) hκ dX10_tree_229 rfl ?_
    refine j_lsub (pc' := 231) hκ dX10_tree_230 rfl ?_
    refine j_topl (fun v28 ev28 => ?_)
    replace h := h v28 ev28
    refine j_lstore_n (pc' := 232) (lv' := [(3, .long v28), (5, .int v27), (0, .ref (g.2.1 11)), (6, .int l6)]) hκ (Nat.le_of_ble_eq_true rfl) rfl rfl dX10_tree_231 rfl ?_
    refine j_iinc (pc' := 235) (v := l6 + 1) (lv' := [(6, .int (l6 + 1)), (3, .long v28), (5, .int v27), (0, .ref (g.2.1 11))]) hκ 3 rfl rfl (Nat.le_of_ble_eq_true rfl) rfl dX10_tree_232 rfl ?_
    refine j_goto (pc' := 155) hκ (by decide) dX10_tree_235 ?_
    refine j_sub [3, 1, 2, 0] rfl ?_
    exact hK155 _ _ _ _  h
  · replace h := h.2 c
    refine j_lconst (pc' := 215) (v := 0) hκ (by decide) dX10_tree_214 rfl ?_
    refine j_goto (pc' := 230) hκ (by decide) dX10_tree_215 ?_
    refine j_lsub (pc' := 231) hκ dX10_tree_230 rfl ?_
    refine j_topl (fun v29 ev29 => ?_)
    replace h := h v29 ev29
    refine j_lstore_n (pc' := 232) (lv' := [(3, .long v29), (5, .int v27), (0, .ref (g.2.1 11)), (6, .int l6)]) hκ (Nat.le_of_ble_eq_true rfl) rfl rfl dX10_tree_231 rfl ?_
    refine j_iinc (pc' := 235) (v := l6 + 1) (lv' := [(6, .int (l6 + 1)), (3, .long v29), (5, .int v27), (0, .ref (g.2.1 11))]) hκ 3 rfl rfl (Nat.le_of_ble_eq_true rfl) rfl dX10_tree_232 rfl ?_
    refine j_goto (pc' := 155) hκ (by decide) dX10_tree_235 ?_
    refine j_sub [3, 1, 2, 0] rfl ?_
    exact hK155 _ _ _ _  h
def wp_m_tree_195 (K155 : ST → Int64 → Int32 → Int32 → Prop) (post : Int64 → ST → Prop) (M : ST) (l3 : Int64) (l6 : Int32) (s0 : Int32) : Prop :=
  wp_m_tree_200 K155 post M l3 l6 1 s0
set_option maxHeartbeats 4000000 in
set_option maxRecDepth 100000 in
theorem lb_m_tree_195 {κ : Cx} {g : Gx} {X : ST} (hκ : CF κ g RX10 cX10_tree wq_X10_tree 7 rm_m_tree) {post : Int64 → ST → Prop} (hR : RtmL κ g 7 cX10_tree X post) {K155 : ST → Int64 → Int32 → Int32 → Prop} (hK155 : ∀ (M : ST) (l3 : Int64) (l5 : Int32) (l6 : Int32), K155 M l3 l5 l6 → Jw κ g 7 X M [(0, .ref (g.2.1 11)), (3, .long l3), (5, .int l5), (6, .int l6)] 155 []) : ∀ (M : ST) (l3 : Int64) (l6 : Int32) (s0 : Int32), wp_m_tree_195 K155 post M l3 l6 s0 → Jw κ g 7 X M [(0, .ref (g.2.1 11)), (3, .long l3), (6, .int l6)] 195 [.int s0] := by
  intro M l3 l6 s0  h
  unfold wp_m_tree_195 at h
  refine j_iconst (pc' := 196) (v := 1) hκ (by decide) dX10_tree_195 rfl ?_
  refine j_goto (pc' := 200) hκ (by decide) dX10_tree_196 ?_
  refine lb_m_tree_200 hκ hR hK155 _ _ _ _ _  h
def wp_m_tree_155_s (K238 : ST → Int64 → Int32 → Prop) (post : Int64 → ST → Prop) (rec : ST → Int64 → Int32 → Int32 → Prop) (M : ST) (l3 : Int64) (l5 : Int32) (l6 : Int32) : Prop :=
  ((m_lamps M) ≤ l6 → (K238 M l3 l5)) ∧ (¬ (m_lamps M) ≤ l6 → (vp_in l6 12 ∧ ((¬ (m_isOut M l6.toNatClampNeg) = 0 → (wp_m_tree_195 rec post M l3 l6 l5)) ∧ ((m_isOut M l6.toNatClampNeg) = 0 → (vp_in l6 12 ∧ (wp_m_first M (fun r31 M30 => vp_in r31 12 ∧ ((¬ (m_hang M l6.toNatClampNeg) = (m_hang M30 r31.toNatClampNeg) → (wp_m_tree_200 rec post M30 l3 l6 0 l5)) ∧ ((m_hang M l6.toNatClampNeg) = (m_hang M30 r31.toNatClampNeg) → (wp_m_tree_195 rec post M30 l3 l6 l5))))))))))
def wp_m_tree_155 (K238 : ST → Int64 → Int32 → Prop) (post : Int64 → ST → Prop) : Nat → ST → Int64 → Int32 → Int32 → Prop
  | 0 => fun _ _ _ _ => False
  | n + 1 => wp_m_tree_155_s K238 post (wp_m_tree_155 K238 post n)
set_option maxHeartbeats 4000000 in
set_option maxRecDepth 100000 in
theorem lb_m_tree_155 {κ : Cx} {g : Gx} {X : ST} (hκ : CF κ g RX10 cX10_tree wq_X10_tree 7 rm_m_tree) {post : Int64 → ST → Prop} (hR : RtmL κ g 7 cX10_tree X post) {K238 : ST → Int64 → Int32 → Prop} (hK238 : ∀ (M : ST) (l3 : Int64) (l5 : Int32), K238 M l3 l5 → Jw κ g 7 X M [(3, .long l3), (5, .int l5)] 238 []) : ∀ (n : Nat) (M : ST) (l3 : Int64) (l5 : Int32) (l6 : Int32), wp_m_tree_155 K238 post n M l3 l5 l6 → Jw κ g 7 X M [(0, .ref (g.2.1 11)), (3, .long l3), (5, .int l5), (6, .int l6)] 155 [] := by
  intro n
  induction n with
  | zero =>
    intro M l3 l5 l6  h
    exact h.elim
  | succ n ih =>
    intro M l3 l5 l6  h
    have h : wp_m_tree_155_s K238 post (wp_m_tree_155 K238 post n) M l3 l5 l6 := h
    unfold wp_m_tree_155_s at h
    refine j_iload (pc' := 157) hκ 3 rfl dX10_tree_155 rfl ?_
    refine j_aload_n (pc' := 158) hκ 0 rfl rfl dX10_tree_157 rfl ?_
    refine jg_11_9 (pc' := 161) hκ (mi inlX10) (fl_in hκ (mc wm_17_13)) dX10_tree_158 rfl ?_
    refine j_icmp_ge (tgt := 238) (pc' := 164) hκ dX10_tree_161 (by decide) rfl (fun c => ?_) (fun c => ?_)
    · replace h := h.1 c
      refine j_sub [1, 2] rfl ?_
      exact hK238 _ _ _  h
    · replace h := h.2 c
      refine j_iload (pc' := 166) hκ 2 rfl dX10_tree_164 rfl ?_
      refine j_aload_n (pc' := 167) hκ 0 rfl rfl dX10_tree_166 rfl ?_
      refine jg_11_13 (pc' := 170) hκ (mi inlX10) (fl_in hκ (mc wm_7_21)) dX10_tree_167 rfl ?_
      refine j_iload (pc' := 172) hκ 3 rfl dX10_tree_170 rfl ?_
      refine jm_zald (pc' := 173) hκ (ah_58 g) h.1 dX10_tree_172 rfl ?_
      replace h := h.2
      refine j_if_ne (tgt := 195) (pc' := 176) hκ dX10_tree_173 (by decide) rfl (fun c => ?_) (fun c => ?_)
      · replace h := h.1 c
        refine j_sub [0, 1, 3] rfl ?_
        refine lb_m_tree_195 hκ hR ih _ _ _ _  h
      · replace h := h.2 c
        refine j_aload_n (pc' := 177) hκ 0 rfl rfl dX10_tree_176 rfl ?_
        refine jg_11_25 (pc' := 180) hκ (mi inlX10) (fl_in hκ (mc wm_8_7)) dX10_tree_177 rfl ?_
        refine j_iload (pc' := 182) hκ 3 rfl dX10_tree_180 rfl ?_
        refine jm_iald (pc' := 183) hκ (ah_68 g) h.1 dX10_tree_182 rfl ?_
        replace h := h.2
        refine j_aload_n (pc' := 184) hκ 0 rfl rfl dX10_tree_183 rfl ?_
        refine jg_11_25 (pc' := 187) hκ (mi inlX10) (fl_in hκ (mc wm_8_7)) dX10_tree_184 rfl ?_
        refine j_aload_n (pc' := 188) hκ 0 rfl rfl dX10_tree_187 rfl ?_
        refine jm_callVi (pc' := 191) hκ (c_m_first (dg hκ) h) rfl rfl rfl (gV wm_36_15 wm_36_16 wm_36_17 wm_1_5 wm_36_18) hqV_X10_first ⟨Nat.le_of_ble_eq_true rfl, Nat.le_of_ble_eq_true rfl⟩ (wg_11 g _ _) rfl rfl rfl (Nat.le_of_ble_eq_true rfl) dX10_tree_188 rfl (fun r31 M30 h => ?_)
        refine jm_iald (pc' := 192) hκ (ah_68 g) h.1 dX10_tree_191 rfl ?_
        replace h := h.2
        refine j_icmp_ne (tgt := 199) (pc' := 195) hκ dX10_tree_192 (by decide) rfl (fun c => ?_) (fun c => ?_)
        · replace h := h.1 c
          refine j_iconst (pc' := 200) (v := 0) hκ (by decide) dX10_tree_199 rfl ?_
          refine j_sub [0, 1, 3] rfl ?_
          refine lb_m_tree_200 hκ hR ih _ _ _ _ _  h
        · replace h := h.2 c
          refine j_sub [0, 1, 3] rfl ?_
          refine lb_m_tree_195 hκ hR ih _ _ _ _  h
def wp_m_tree (M : ST) (post : Int64 → ST → Prop) : Prop :=
  ∀ M1 : ST, M1 = ms_taken M 0 → ∃ n, wp_m_tree_7 (fun M3 => ∃ n, wp_m_tree_29 (fun M5 => wp_m_nextPair M5 0 (fun r7 M6 => ∃ n, wp_m_tree_54 (fun M12 => wp_m_nextPair M12 1 (fun r14 M13 => ∃ n, wp_m_tree_80 (fun M19 v20 => ∃ n, wp_m_tree_111 (fun M24 v25 v26 => (¬ v25 = 2 → (∃ n, wp_m_tree_155 (fun M32 v33 v34 => (v34 = 0 → (post 4611686018427387904 M32)) ∧ (¬ v34 = 0 → (post v33 M32))) post n M24 v26 0 0)) ∧ (v25 = 2 → (∃ n, wp_m_tree_155 (fun M35 v36 v37 => (v37 = 0 → (post 4611686018427387904 M35)) ∧ (¬ v37 = 0 → (post v36 M35))) post n M24 v26 1 0))) post n M19 v20 0 0) post n M13 r14 0)) post n M6 r7)) post n M3 0) post n M1 0
set_option maxHeartbeats 4000000 in
set_option maxRecDepth 100000 in
theorem lb_m_tree {κ : Cx} {g : Gx} {X : ST} (hκ : CF κ g RX10 cX10_tree wq_X10_tree 7 rm_m_tree) {post : Int64 → ST → Prop} (hR : RtmL κ g 7 cX10_tree X post) {M : ST} (h : wp_m_tree M post) : Jw κ g 7 X M [(0, .ref (g.2.1 11))] 0 [] := by
  unfold wp_m_tree at h
  refine j_aload_n (pc' := 1) hκ 0 rfl rfl dX10_tree_0 rfl ?_
  refine j_iconst (pc' := 2) (v := 0) hκ (by decide) dX10_tree_1 rfl ?_
  refine jp_11_27 (pc' := 5) hκ (mi inlX10) (fl_in hκ (mc wm_36_1)) dX10_tree_2 rfl ?_
  refine j_nmM (fun M1 eM1 => ?_)
  replace h := h M1 eM1
  refine j_iconst (pc' := 6) (v := 0) hκ (by decide) dX10_tree_5 rfl ?_
  refine j_istore_n (pc' := 7) (lv' := [(1, .int 0), (0, .ref (g.2.1 11))]) hκ (Nat.le_of_ble_eq_true rfl) rfl rfl dX10_tree_6 rfl ?_
  obtain ⟨n, h⟩ := h
  refine j_sub [1, 0] rfl ?_
  refine lb_m_tree_7 hκ hR ?_ n _ _  h
  intro M3  h
  refine j_iconst (pc' := 28) (v := 0) hκ (by decide) dX10_tree_27 rfl ?_
  refine j_istore_n (pc' := 29) (lv' := [(1, .int 0), (0, .ref (g.2.1 11))]) hκ (Nat.le_of_ble_eq_true rfl) rfl rfl dX10_tree_28 rfl ?_
  obtain ⟨n, h⟩ := h
  refine j_sub [1, 0] rfl ?_
  refine lb_m_tree_29 hκ hR ?_ n _ _  h
  intro M5  h
  refine j_aload_n (pc' := 49) hκ 0 rfl rfl dX10_tree_48 rfl ?_
  refine j_iconst (pc' := 50) (v := 0) hκ (by decide) dX10_tree_49 rfl ?_
  refine jm_callVi (pc' := 53) hκ (c_m_nextPair (dg hκ) h) rfl rfl rfl (gV wm_36_11 wm_36_12 wm_36_13 wm_1_5 wm_36_14) hqV_X10_nextPair ⟨Nat.le_of_ble_eq_true rfl, Nat.le_of_ble_eq_true rfl⟩ (wg_11 g _ _) rfl rfl rfl (Nat.le_of_ble_eq_true rfl) dX10_tree_50 rfl (fun r7 M6 h => ?_)
  refine j_istore_n (pc' := 54) (lv' := [(1, .int r7), (0, .ref (g.2.1 11))]) hκ (Nat.le_of_ble_eq_true rfl) rfl rfl dX10_tree_53 rfl ?_
  obtain ⟨n, h⟩ := h
  refine j_sub [1, 0] rfl ?_
  refine lb_m_tree_54 hκ hR ?_ n _ _  h
  intro M12  h
  refine j_iconst (pc' := 73) (v := 0) hκ (by decide) dX10_tree_72 rfl ?_
  refine j_istore_n (pc' := 74) (lv' := [(2, .int 0), (0, .ref (g.2.1 11))]) hκ (Nat.le_of_ble_eq_true rfl) rfl rfl dX10_tree_73 rfl ?_
  refine j_aload_n (pc' := 75) hκ 1 rfl rfl dX10_tree_74 rfl ?_
  refine j_iconst (pc' := 76) (v := 1) hκ (by decide) dX10_tree_75 rfl ?_
  refine jm_callVi (pc' := 79) hκ (c_m_nextPair (dg hκ) h) rfl rfl rfl (gV wm_36_11 wm_36_12 wm_36_13 wm_1_5 wm_36_14) hqV_X10_nextPair ⟨Nat.le_of_ble_eq_true rfl, Nat.le_of_ble_eq_true rfl⟩ (wg_11 g _ _) rfl rfl rfl (Nat.le_of_ble_eq_true rfl) dX10_tree_76 rfl (fun r14 M13 h => ?_)
  refine j_istore_n (pc' := 80) (lv' := [(1, .int r14), (2, .int 0), (0, .ref (g.2.1 11))]) hκ (Nat.le_of_ble_eq_true rfl) rfl rfl dX10_tree_79 rfl ?_
  obtain ⟨n, h⟩ := h
  refine j_sub [2, 0, 1] rfl ?_
  refine lb_m_tree_80 hκ hR ?_ n _ _ _  h
  intro M19 v20  h
  refine j_lconst (pc' := 107) (v := 0) hκ (by decide) dX10_tree_106 rfl ?_
  refine j_lstore_n (pc' := 108) (lv' := [(3, .long 0), (0, .ref (g.2.1 11)), (2, .int v20)]) hκ (Nat.le_of_ble_eq_true rfl) rfl rfl dX10_tree_107 rfl ?_
  refine j_iconst (pc' := 109) (v := 0) hκ (by decide) dX10_tree_108 rfl ?_
  refine j_istore (pc' := 111) (lv' := [(5, .int 0), (3, .long 0), (0, .ref (g.2.1 11)), (2, .int v20)]) hκ (Nat.le_of_ble_eq_true rfl) rfl dX10_tree_109 rfl ?_
  obtain ⟨n, h⟩ := h
  refine j_sub [2, 3, 1, 0] rfl ?_
  refine lb_m_tree_111 hκ hR ?_ n _ _ _ _  h
  intro M24 v25 v26  h
  refine j_iload_n (pc' := 141) hκ 1 rfl rfl dX10_tree_140 rfl ?_
  refine j_iconst (pc' := 142) (v := 2) hκ (by decide) dX10_tree_141 rfl ?_
  refine j_icmp_ne (tgt := 149) (pc' := 145) hκ dX10_tree_142 (by decide) rfl (fun c => ?_) (fun c => ?_)
  · replace h := h.1 c
    refine j_iconst (pc' := 150) (v := 0) hκ (by decide) dX10_tree_149 rfl ?_
    refine j_istore (pc' := 152) (lv' := [(5, .int 0), (0, .ref (g.2.1 11)), (2, .int v25), (3, .long v26)]) hκ (Nat.le_of_ble_eq_true rfl) rfl dX10_tree_150 rfl ?_
    refine j_iconst (pc' := 153) (v := 0) hκ (by decide) dX10_tree_152 rfl ?_
    refine j_istore (pc' := 155) (lv' := [(6, .int 0), (5, .int 0), (0, .ref (g.2.1 11)), (2, .int v25), (3, .long v26)]) hκ (Nat.le_of_ble_eq_true rfl) rfl dX10_tree_153 rfl ?_
    obtain ⟨n, h⟩ := h
    refine j_sub [2, 4, 1, 0] rfl ?_
    refine lb_m_tree_155 hκ hR ?_ n _ _ _ _  h
    intro M32 v33 v34  h
    refine j_iload (pc' := 240) hκ 1 rfl dX10_tree_238 rfl ?_
    refine j_if_eq (tgt := 247) (pc' := 243) hκ dX10_tree_240 (by decide) rfl (fun c => ?_) (fun c => ?_)
    · replace h := h.1 c
      refine j_ldc2_w (pc' := 250) hκ (mc wm_36_0) dX10_tree_247 rfl ?_
      exact hR _ _ _ _ dX10_tree_250 h
    · replace h := h.2 c
      refine j_lload_n (pc' := 244) hκ 0 rfl rfl dX10_tree_243 rfl ?_
      refine j_goto (pc' := 250) hκ (by decide) dX10_tree_244 ?_
      exact hR _ _ _ _ dX10_tree_250 h
  · replace h := h.2 c
    refine j_iconst (pc' := 146) (v := 1) hκ (by decide) dX10_tree_145 rfl ?_
    refine j_goto (pc' := 150) hκ (by decide) dX10_tree_146 ?_
    refine j_istore (pc' := 152) (lv' := [(5, .int 1), (0, .ref (g.2.1 11)), (2, .int v25), (3, .long v26)]) hκ (Nat.le_of_ble_eq_true rfl) rfl dX10_tree_150 rfl ?_
    refine j_iconst (pc' := 153) (v := 0) hκ (by decide) dX10_tree_152 rfl ?_
    refine j_istore (pc' := 155) (lv' := [(6, .int 0), (5, .int 1), (0, .ref (g.2.1 11)), (2, .int v25), (3, .long v26)]) hκ (Nat.le_of_ble_eq_true rfl) rfl dX10_tree_153 rfl ?_
    obtain ⟨n, h⟩ := h
    refine j_sub [2, 4, 1, 0] rfl ?_
    refine lb_m_tree_155 hκ hR ?_ n _ _ _ _  h
    intro M35 v36 v37  h
    refine j_iload (pc' := 240) hκ 1 rfl dX10_tree_238 rfl ?_
    refine j_if_eq (tgt := 247) (pc' := 243) hκ dX10_tree_240 (by decide) rfl (fun c => ?_) (fun c => ?_)
    · replace h := h.1 c
      refine j_ldc2_w (pc' := 250) hκ (mc wm_36_0) dX10_tree_247 rfl ?_
      exact hR _ _ _ _ dX10_tree_250 h
    · replace h := h.2 c
      refine j_lload_n (pc' := 244) hκ 0 rfl rfl dX10_tree_243 rfl ?_
      refine j_goto (pc' := 250) hκ (by decide) dX10_tree_244 ?_
      exact hR _ _ _ _ dX10_tree_250 h
theorem c_m_tree {g : Gx} (hg : Dg g) {X M : ST} {post : Int64 → ST → Prop} (h : wp_m_tree M post) (l : Launch) : Met l yX10_tree wq_X10_tree rm_m_tree (va_Pc [.ref (g.2.1 11)] (PU g X M)) (va_Ql post (fun Y t => va_P g.1 vwCl (ww g X Y) t.heap) (wA g)) 0 0 (wA g) :=
  met_ml hg (by decide) rfl [.ref (g.2.1 11)] rfl (Nat.le_of_ble_eq_true rfl) (fun κ hκ hR => lb_m_tree hκ hR h) l
