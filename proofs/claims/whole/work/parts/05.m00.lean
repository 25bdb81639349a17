abbrev rm_m_isCrossing : Room := { frames := 0, cells := 0, slots := 0, locals := 0 }
def wp_m_isCrossing (M : ST) (p0 : Int32) (post : Int32 → ST → Prop) : Prop :=
  (p0 < 0 → (post 0 M)) ∧ (¬ p0 < 0 → ((40 ≤ p0 → (post 0 M)) ∧ (¬ 40 ≤ p0 → (post 1 M))))
set_option maxHeartbeats 4000000 in
set_option maxRecDepth 100000 in
theorem lb_m_isCrossing {κ : Cx} {g : Gx} {X : ST} (hκ : CF κ g RX10 cX10_isCrossing wq_X10_isCrossing 1 rm_m_isCrossing) {post : Int32 → ST → Prop} (hR : RtmZ κ g 1 cX10_isCrossing X post) {M : ST} {p0 : Int32} (h : wp_m_isCrossing M p0 post) : Jw κ g 1 X M [(0, .int p0)] 0 [] := by
  unfold wp_m_isCrossing at h
  refine j_iload_n (pc' := 1) hκ 0 rfl rfl dX10_isCrossing_0 rfl ?_
  refine j_if_lt (tgt := 14) (pc' := 4) hκ dX10_isCrossing_1 (by decide) rfl (fun c => ?_) (fun c => ?_)
  · replace h := h.1 c
    refine j_iconst (pc' := 15) (v := 0) hκ (by decide) dX10_isCrossing_14 rfl ?_
    exact hR _ _ _ _ dX10_isCrossing_15 (Or.inl rfl) h
  · replace h := h.2 c
    refine j_iload_n (pc' := 5) hκ 0 rfl rfl dX10_isCrossing_4 rfl ?_
    refine j_bipush (pc' := 7) (v := 40) hκ (by decide) dX10_isCrossing_5 rfl ?_
    refine j_icmp_ge (tgt := 14) (pc' := 10) hκ dX10_isCrossing_7 (by decide) rfl (fun c => ?_) (fun c => ?_)
    · replace h := h.1 c
      refine j_iconst (pc' := 15) (v := 0) hκ (by decide) dX10_isCrossing_14 rfl ?_
      exact hR _ _ _ _ dX10_isCrossing_15 (Or.inl rfl) h
    · replace h := h.2 c
      refine j_iconst (pc' := 11) (v := 1) hκ (by decide) dX10_isCrossing_10 rfl ?_
      refine j_goto (pc' := 15) hκ (by decide) dX10_isCrossing_11 ?_
      exact hR _ _ _ _ dX10_isCrossing_15 (Or.inr rfl) h
theorem c_m_isCrossing {g : Gx} (hg : Dg g) {X M : ST} {p0 : Int32} {post : Int32 → ST → Prop} (h : wp_m_isCrossing M p0 post) (l : Launch) : Met l yX10_isCrossing wq_X10_isCrossing rm_m_isCrossing (va_Pc [.int p0] (PU g X M)) (va_Qi post (fun Y t => va_P g.1 vwCl (ww g X Y) t.heap) (wA g)) 0 0 (wA g) :=
  met_mz hg (by decide) rfl [.int p0] rfl (Nat.le_of_ble_eq_true rfl) (fun κ hκ hR => lb_m_isCrossing hκ hR h) l
theorem wm_10_9 : Cond.methodLink RX10 114 yX10_isCrossing ∈ wAll := inr_10 (List.mem_of_getElem? (i := 9) rfl)
theorem wm_10_10 : Cond.static yX10_isCrossing ∈ wAll := inr_10 (List.mem_of_getElem? (i := 10) rfl)
theorem wm_1_5 : Cond.initialized RX10 ∈ wAll := inr_1 (List.mem_of_getElem? (i := 5) rfl)
theorem wm_10_11 : Cond.code yX10_isCrossing cX10_isCrossing 1 (some .boolean) ∈ wAll := inr_10 (List.mem_of_getElem? (i := 11) rfl)
theorem hqS_X10_isCrossing : yX10_isCrossing.cls ≠ "java/lang/invoke/MethodHandle" ∧ yX10_isCrossing.cls ≠ "java/lang/invoke/VarHandle" ∧ (parseMethodDescriptor yX10_isCrossing.desc).map (fun d => d.parameters.length) = some 1 := by decide +kernel
theorem wm_8_20 : Cond.fieldLink RX10 103 "LampRoundModel" "lanes" "I" ∈ wAll := inr_8 (List.mem_of_getElem? (i := 20) rfl)
theorem wm_7_10 : Cond.fieldLink RX10 7 "LampRoundModel" "from" "[I" ∈ wAll := inr_7 (List.mem_of_getElem? (i := 10) rfl)
theorem wm_7_11 : Cond.fieldLink RX10 13 "LampRoundModel" "to" "[I" ∈ wAll := inr_7 (List.mem_of_getElem? (i := 11) rfl)
theorem wm_7_12 : Cond.fieldLink RX10 16 "LampRoundModel" "length" "[I" ∈ wAll := inr_7 (List.mem_of_getElem? (i := 12) rfl)
theorem wm_7_13 : Cond.fieldLink RX10 19 "LampRoundModel" "isOpen" "[Z" ∈ wAll := inr_7 (List.mem_of_getElem? (i := 13) rfl)
theorem wm_10_8 : Cond.fieldLink RX10 117 "LampRoundModel" "told" "I" ∈ wAll := inr_10 (List.mem_of_getElem? (i := 8) rfl)
theorem wm_7_17 : Cond.fieldLink RX10 33 "LampRoundModel" "ways" "[I" ∈ wAll := inr_7 (List.mem_of_getElem? (i := 17) rfl)
theorem wm_8_19 : Cond.constant RX10 102 (1000000000) ∈ wAll := inr_8 (List.mem_of_getElem? (i := 19) rfl)
abbrev rm_m_work : Room := { frames := 0, cells := 0, slots := 0, locals := 0 }
def wp_m_work_2_s (K38 : ST → Prop) (post : ST → Prop) (rec : ST → Int32 → Prop) (M : ST) (l1 : Int32) : Prop :=
  (1600 ≤ l1 → (K38 M)) ∧ (¬ 1600 ≤ l1 → ((¬ (l1 / 40) = (l1 - l1 / 40 * 40) → (vp_in l1 1600 ∧ (∀ M1 : ST, M1 = ms_ways M (upd (m_ways M) l1.toNatClampNeg 1000000000) → rec M1 (l1 + 1)))) ∧ ((l1 / 40) = (l1 - l1 / 40 * 40) → (vp_in l1 1600 ∧ (∀ M2 : ST, M2 = ms_ways M (upd (m_ways M) l1.toNatClampNeg 0) → rec M2 (l1 + 1))))))
def wp_m_work_2 (K38 : ST → Prop) (post : ST → Prop) : Nat → ST → Int32 → Prop
  | 0 => fun _ _ => False
  | n + 1 => wp_m_work_2_s K38 post (wp_m_work_2 K38 post n)
set_option maxHeartbeats 4000000 in
set_option maxRecDepth 100000 in
theorem lb_m_work_2 {κ : Cx} {g : Gx} {X : ST} (hκ : CF κ g RX10 cX10_work wq_X10_work 4 rm_m_work) {post : ST → Prop} (hR : RtmV κ g 4 cX10_work X post) {K38 : ST → Prop} (hK38 : ∀ (M : ST), K38 M → Jw κ g 4 X M [(0, .ref (g.2.1 11))] 38 []) : ∀ (n : Nat) (M : ST) (l1 : Int32), wp_m_work_2 K38 post n M l1 → Jw κ g 4 X M [(0, .ref (g.2.1 11)), (1, .int l1)] 2 [] := by
  intro n
  induction n with
  | zero =>
    intro M l1  h
    exact h.elim
  | succ n ih =>
    intro M l1  h
    have h : wp_m_work_2_s K38 post (wp_m_work_2 K38 post n) M l1 := h
    unfold wp_m_work_2_s at h
    refine j_iload_n (pc' := 3) hκ 1 rfl rfl dX10_work_2 rfl ?_
    refine j_sipush (pc' := 6) (v := 1600) hκ (by decide) dX10_work_3 rfl ?_
    refine j_icmp_ge (tgt := 38) (pc' := 9) hκ dX10_work_6 (by decide) rfl (fun c => ?_) (fun c => ?_)
    · replace h := h.1 c
      refine j_sub [0] rfl ?_
      exact hK38 _  h
    · replace h := h.2 c
      refine j_aload_n (pc' := 10) hκ 0 rfl rfl dX10_work_9 rfl ?_
      refine jg_11_8 (pc' := 13) hκ (mi inlX10) (fl_in hκ (mc wm_7_17)) dX10_work_10 rfl ?_
      refine j_iload_n (pc' := 14) hκ 1 rfl rfl dX10_work_13 rfl ?_
      refine j_iload_n (pc' := 15) hκ 1 rfl rfl dX10_work_14 rfl ?_
      refine j_bipush (pc' := 17) (v := 40) hκ (by decide) dX10_work_15 rfl ?_
      refine j_idiv (pc' := 18) hκ (by decide) dX10_work_17 rfl ?_
      refine j_iload_n (pc' := 19) hκ 1 rfl rfl dX10_work_18 rfl ?_
      refine j_bipush (pc' := 21) (v := 40) hκ (by decide) dX10_work_19 rfl ?_
      refine j_irem (pc' := 22) hκ (by decide) dX10_work_21 rfl ?_
      refine j_icmp_ne (tgt := 29) (pc' := 25) hκ dX10_work_22 (by decide) rfl (fun c => ?_) (fun c => ?_)
      · replace h := h.1 c
        refine j_ldc (pc' := 31) hκ (mc wm_8_19) dX10_work_29 rfl ?_
        refine jm_iast (pc' := 32) hκ (ah_54 g) h.1 dX10_work_31 rfl ?_
        replace h := h.2
        refine j_nmM (fun M1 eM1 => ?_)
        replace h := h M1 eM1
        refine j_iinc (pc' := 35) (v := l1 + 1) (lv' := [(1, .int (l1 + 1)), (0, .ref (g.2.1 11))]) hκ 1 rfl rfl (Nat.le_of_ble_eq_true rfl) rfl dX10_work_32 rfl ?_
        refine j_goto (pc' := 2) hκ (by decide) dX10_work_35 ?_
        refine j_sub [1, 0] rfl ?_
        exact ih _ _  h
      · replace h := h.2 c
        refine j_iconst (pc' := 26) (v := 0) hκ (by decide) dX10_work_25 rfl ?_
        refine j_goto (pc' := 31) hκ (by decide) dX10_work_26 ?_
        refine jm_iast (pc' := 32) hκ (ah_54 g) h.1 dX10_work_31 rfl ?_
        replace h := h.2
        refine j_nmM (fun M2 eM2 => ?_)
        replace h := h M2 eM2
        refine j_iinc (pc' := 35) (v := l1 + 1) (lv' := [(1, .int (l1 + 1)), (0, .ref (g.2.1 11))]) hκ 1 rfl rfl (Nat.le_of_ble_eq_true rfl) rfl dX10_work_32 rfl ?_
        refine j_goto (pc' := 2) hκ (by decide) dX10_work_35 ?_
        refine j_sub [1, 0] rfl ?_
        exact ih _ _  h
def wp_m_work_126 (K40 : ST → Int32 → Prop) (post : ST → Prop) (M : ST) (l1 : Int32) (l2 : Int32) (l3 : Int32) (s0 : Int32) (s1 : Int32) : Prop :=
  vp_in s1 1600 ∧ (∀ M6 : ST, M6 = ms_ways M (upd (m_ways M) s1.toNatClampNeg s0) → vp_in l2 1600 ∧ (vp_in l3 1600 ∧ (∀ M7 : ST, M7 = ms_ways M6 (upd (m_ways M6) l3.toNatClampNeg (m_ways M6 l2.toNatClampNeg)) → K40 M7 (l1 + 1))))
set_option maxHeartbeats 4000000 in
set_option maxRecDepth 100000 in
theorem lb_m_work_126 {κ : Cx} {g : Gx} {X : ST} (hκ : CF κ g RX10 cX10_work wq_X10_work 4 rm_m_work) {post : ST → Prop} (hR : RtmV κ g 4 cX10_work X post) {K40 : ST → Int32 → Prop} (hK40 : ∀ (M : ST) (l1 : Int32), K40 M l1 → Jw κ g 4 X M [(0, .ref (g.2.1 11)), (1, .int l1)] 40 []) : ∀ (M : ST) (l1 : Int32) (l2 : Int32) (l3 : Int32) (s0 : Int32) (s1 : Int32), wp_m_work_126 K40 post M l1 l2 l3 s0 s1 → Jw κ g 4 X M [(0, .ref (g.2.1 11)), (1, .int l1), (2, .int l2), (3, .int l3)] 126 [.int s0, .int s1, .ref (g.2.1 54)] := by
  intro M l1 l2 l3 s0 s1  h
  unfold wp_m_work_126 at h
  refine jm_iast (pc' := 127) hκ (ah_54 g) h.1 dX10_work_126 rfl ?_
  replace h := h.2
  refine j_nmM (fun M6 eM6 => ?_)
  replace h := h M6 eM6
  refine j_aload_n (pc' := 128) hκ 0 rfl rfl dX10_work_127 rfl ?_
  refine jg_11_8 (pc' := 131) hκ (mi inlX10) (fl_in hκ (mc wm_7_17)) dX10_work_128 rfl ?_
  refine j_iload_n (pc' := 132) hκ 3 rfl rfl dX10_work_131 rfl ?_
  refine j_aload_n (pc' := 133) hκ 0 rfl rfl dX10_work_132 rfl ?_
  refine jg_11_8 (pc' := 136) hκ (mi inlX10) (fl_in hκ (mc wm_7_17)) dX10_work_133 rfl ?_
  refine j_iload_n (pc' := 137) hκ 2 rfl rfl dX10_work_136 rfl ?_
  refine jm_iald (pc' := 138) hκ (ah_54 g) h.1 dX10_work_137 rfl ?_
  replace h := h.2
  refine jm_iast (pc' := 139) hκ (ah_54 g) h.1 dX10_work_138 rfl ?_
  replace h := h.2
  refine j_nmM (fun M7 eM7 => ?_)
  replace h := h M7 eM7
  refine j_iinc (pc' := 142) (v := l1 + 1) (lv' := [(1, .int (l1 + 1)), (0, .ref (g.2.1 11)), (2, .int l2), (3, .int l3)]) hκ 1 rfl rfl (Nat.le_of_ble_eq_true rfl) rfl dX10_work_139 rfl ?_
  refine j_goto (pc' := 40) hκ (by decide) dX10_work_142 ?_
  refine j_sub [1, 0] rfl ?_
  exact hK40 _ _  h
def wp_m_work_40_s (K145 : ST → Prop) (post : ST → Prop) (rec : ST → Int32 → Prop) (M : ST) (l1 : Int32) : Prop :=
  ((m_lanes M) ≤ l1 → (K145 M)) ∧ (¬ (m_lanes M) ≤ l1 → (vp_in l1 100 ∧ (((m_isOpen M l1.toNatClampNeg) = 0 → (rec M (l1 + 1))) ∧ (¬ (m_isOpen M l1.toNatClampNeg) = 0 → (vp_in l1 100 ∧ (vp_in l1 100 ∧ (∀ v4 : Int32, v4 = (40 * (m_from M l1.toNatClampNeg)) + (m_to M l1.toNatClampNeg) → vp_in l1 100 ∧ (vp_in l1 100 ∧ (∀ v5 : Int32, v5 = (40 * (m_to M l1.toNatClampNeg)) + (m_from M l1.toNatClampNeg) → vp_in l1 100 ∧ (vp_in v4 1600 ∧ (((m_ways M v4.toNatClampNeg) ≤ (m_length M l1.toNatClampNeg) → (vp_in v4 1600 ∧ (wp_m_work_126 rec post M l1 v4 v5 (m_ways M v4.toNatClampNeg) v4))) ∧ (¬ (m_ways M v4.toNatClampNeg) ≤ (m_length M l1.toNatClampNeg) → (vp_in l1 100 ∧ (wp_m_work_126 rec post M l1 v4 v5 (m_length M l1.toNatClampNeg) v4))))))))))))))
def wp_m_work_40 (K145 : ST → Prop) (post : ST → Prop) : Nat → ST → Int32 → Prop
  | 0 => fun _ _ => False
  | n + 1 => wp_m_work_40_s K145 post (wp_m_work_40 K145 post n)
set_option maxHeartbeats 4000000 in
set_option maxRecDepth 100000 in
theorem lb_m_work_40 {κ : Cx} {g : Gx} {X : ST} (hκ : CF κ g RX10 cX10_work wq_X10_work 4 rm_m_work) {post : ST → Prop} (hR : RtmV κ g 4 cX10_work X post) {K145 : ST → Prop} (hK145 : ∀ (M : ST), K145 M → Jw κ g 4 X M [(0, .ref (g.2.1 11))] 145 []) : ∀ (n : Nat) (M : ST) (l1 : Int32), wp_m_work_40 K145 post n M l1 → Jw κ g 4 X M [(0, .ref (g.2.1 11)), (1, .int l1)] 40 [] := by
  intro n
  induction n with
  | zero =>
    intro M l1  h
    exact h.elim
  | succ n ih =>
    intro M l1  h
    have h : wp_m_work_40_s K145 post (wp_m_work_40 K145 post n) M l1 := h
    unfold wp_m_work_40_s at h
    refine j_iload_n (pc' := 41) hκ 1 rfl rfl dX10_work_40 rfl ?_
    refine j_aload_n (pc' := 42) hκ 0 rfl rfl dX10_work_41 rfl ?_
    refine jg_11_0 (pc' := 45) hκ (mi inlX10) (fl_in hκ (mc wm_8_20)) dX10_work_42 rfl ?_
    refine j_icmp_ge (tgt := 145) (pc' := 48) hκ dX10_work_45 (by decide) rfl (fun c => ?_) (fun c => ?_)
    · replace h := h.1 c
      refine j_sub [0] rfl ?_
      exact hK145 _  h
    · replace h := h.2 c
      refine j_aload_n (pc' := 49) hκ 0 rfl rfl dX10_work_48 rfl ?_
      refine jg_11_4 (pc' := 52) hκ (mi inlX10) (fl_in hκ (mc wm_7_13)) dX10_work_49 rfl ?_
      refine j_iload_n (pc' := 53) hκ 1 rfl rfl dX10_work_52 rfl ?_
      refine jm_zald (pc' := 54) hκ (ah_50 g) h.1 dX10_work_53 rfl ?_
      replace h := h.2
      refine j_if_eq (tgt := 139) (pc' := 57) hκ dX10_work_54 (by decide) rfl (fun c => ?_) (fun c => ?_)
      · replace h := h.1 c
        refine j_iinc (pc' := 142) (v := l1 + 1) (lv' := [(1, .int (l1 + 1)), (0, .ref (g.2.1 11))]) hκ 1 rfl rfl (Nat.le_of_ble_eq_true rfl) rfl dX10_work_139 rfl ?_
        refine j_goto (pc' := 40) hκ (by decide) dX10_work_142 ?_
        refine j_sub [1, 0] rfl ?_
        exact ih _ _  h
      · replace h := h.2 c
        refine j_bipush (pc' := 59) (v := 40) hκ (by decide) dX10_work_57 rfl ?_
        refine j_aload_n (pc' := 60) hκ 0 rfl rfl dX10_work_59 rfl ?_
        refine jg_11_1 (pc' := 63) hκ (mi inlX10) (fl_in hκ (mc wm_7_10)) dX10_work_60 rfl ?_
        refine j_iload_n (pc' := 64) hκ 1 rfl rfl dX10_work_63 rfl ?_
        refine jm_iald (pc' := 65) hκ (ah_47 g) h.1 dX10_work_64 rfl ?_
        replace h := h.2
        refine j_imul (pc' := 66) hκ dX10_work_65 rfl ?_
        refine j_aload_n (pc' := 67) hκ 0 rfl rfl dX10_work_66 rfl ?_
        refine jg_11_2 (pc' := 70) hκ (mi inlX10) (fl_in hκ (mc wm_7_11)) dX10_work_67 rfl ?_
        refine j_iload_n (pc' := 71) hκ 1 rfl rfl dX10_work_70 rfl ?_
        refine jm_iald (pc' := 72) hκ (ah_48 g) h.1 dX10_work_71 rfl ?_
        replace h := h.2
        refine j_iadd (pc' := 73) hκ dX10_work_72 rfl ?_
        refine j_topi (fun v4 ev4 => ?_)
        replace h := h v4 ev4
        refine j_istore_n (pc' := 74) (lv' := [(2, .int v4), (0, .ref (g.2.1 11)), (1, .int l1)]) hκ (Nat.le_of_ble_eq_true rfl) rfl rfl dX10_work_73 rfl ?_
        refine j_bipush (pc' := 76) (v := 40) hκ (by decide) dX10_work_74 rfl ?_
        refine j_aload_n (pc' := 77) hκ 1 rfl rfl dX10_work_76 rfl ?_
        refine jg_11_2 (pc' := 80) hκ (mi inlX10) (fl_in hκ (mc wm_7_11)) dX10_work_77 rfl ?_
        refine j_iload_n (pc' := 81) hκ 2 rfl rfl dX10_work_80 rfl ?_
        refine jm_iald (pc' := 82) hκ (ah_48 g) h.1 dX10_work_81 rfl ?_
        replace h := h.2
        refine j_imul (pc' := 83) hκ dX10_work_82 rfl ?_
        refine j_aload_n (pc' := 84) hκ 1 rfl rfl dX10_work_83 rfl ?_
        refine jg_11_1 (pc' := 87) hκ (mi inlX10) (fl_in hκ (mc wm_7_10)) dX10_work_84 rfl ?_
        refine j_iload_n (pc' := 88) hκ 2 rfl rfl dX10_work_87 rfl ?_
        refine jm_iald (pc' := 89) hκ (ah_47 g) h.1 dX10_work_88 rfl ?_
        replace h := h.2
        refine j_iadd (pc' := 90) hκ dX10_work_89 rfl ?_
        refine j_topi (fun v5 ev5 => ?_)
        replace h := h v5 ev5
        refine j_istore_n (pc' := 91) (lv' := [(3, .int v5), (2, .int v4), (0, .ref (g.2.1 11)), (1, .int l1)]) hκ (Nat.le_of_ble_eq_true rfl) rfl rfl dX10_work_90 rfl ?_
        refine j_aload_n (pc' := 92) hκ 2 rfl rfl dX10_work_91 rfl ?_
        refine jg_11_8 (pc' := 95) hκ (mi inlX10) (fl_in hκ (mc wm_7_17)) dX10_work_92 rfl ?_
        refine j_iload_n (pc' := 96) hκ 1 rfl rfl dX10_work_95 rfl ?_
        refine j_aload_n (pc' := 97) hκ 2 rfl rfl dX10_work_96 rfl ?_
        refine jg_11_3 (pc' := 100) hκ (mi inlX10) (fl_in hκ (mc wm_7_12)) dX10_work_97 rfl ?_
        refine j_iload_n (pc' := 101) hκ 3 rfl rfl dX10_work_100 rfl ?_
        refine jm_iald (pc' := 102) hκ (ah_49 g) h.1 dX10_work_101 rfl ?_
        replace h := h.2
        refine j_aload_n (pc' := 103) hκ 2 rfl rfl dX10_work_102 rfl ?_
        refine jg_11_8 (pc' := 106) hκ (mi inlX10) (fl_in hκ (mc wm_7_17)) dX10_work_103 rfl ?_
        refine j_iload_n (pc' := 107) hκ 1 rfl rfl dX10_work_106 rfl ?_
        refine jm_iald (pc' := 108) hκ (ah_54 g) h.1 dX10_work_107 rfl ?_
        replace h := h.2
        refine j_icmp_ge (tgt := 120) (pc' := 111) hκ dX10_work_108 (by decide) rfl (fun c => ?_) (fun c => ?_)
        · replace h := h.1 c
          refine j_aload_n (pc' := 121) hκ 2 rfl rfl dX10_work_120 rfl ?_
          refine jg_11_8 (pc' := 124) hκ (mi inlX10) (fl_in hκ (mc wm_7_17)) dX10_work_121 rfl ?_
          refine j_iload_n (pc' := 125) hκ 1 rfl rfl dX10_work_124 rfl ?_
          refine jm_iald (pc' := 126) hκ (ah_54 g) h.1 dX10_work_125 rfl ?_
          replace h := h.2
          refine j_sub [2, 3, 1, 0] rfl ?_
          refine lb_m_work_126 hκ hR ih _ _ _ _ _ _  h
        · replace h := h.2 c
          refine j_aload_n (pc' := 112) hκ 2 rfl rfl dX10_work_111 rfl ?_
          refine jg_11_3 (pc' := 115) hκ (mi inlX10) (fl_in hκ (mc wm_7_12)) dX10_work_112 rfl ?_
          refine j_iload_n (pc' := 116) hκ 3 rfl rfl dX10_work_115 rfl ?_
          refine jm_iald (pc' := 117) hκ (ah_49 g) h.1 dX10_work_116 rfl ?_
          replace h := h.2
          refine j_goto (pc' := 126) hκ (by decide) dX10_work_117 ?_
          refine j_sub [2, 3, 1, 0] rfl ?_
          refine lb_m_work_126 hκ hR ih _ _ _ _ _ _  h
def wp_m_work_155_s (K224 : ST → Int32 → Prop) (post : ST → Prop) (rec : ST → Int32 → Int32 → Prop) (M : ST) (l1 : Int32) (l2 : Int32) : Prop :=
  (1600 ≤ l2 → (K224 M l1)) ∧ (¬ 1600 ≤ l2 → (vp_in (((l2 / 40) * 40) + l1) 1600 ∧ (vp_in ((40 * l1) + (l2 - l2 / 40 * 40)) 1600 ∧ (∀ v9 : Int32, v9 = (m_ways M (((l2 / 40) * 40) + l1).toNatClampNeg) + (m_ways M ((40 * l1) + (l2 - l2 / 40 * 40)).toNatClampNeg) → vp_in l2 1600 ∧ (((m_ways M l2.toNatClampNeg) ≤ v9 → (vp_in l2 1600 ∧ (vp_in l2 1600 ∧ (∀ M10 : ST, M10 = ms_ways M (upd (m_ways M) l2.toNatClampNeg (m_ways M l2.toNatClampNeg)) → rec M10 l1 (l2 + 1))))) ∧ (¬ (m_ways M l2.toNatClampNeg) ≤ v9 → (vp_in l2 1600 ∧ (∀ M11 : ST, M11 = ms_ways M (upd (m_ways M) l2.toNatClampNeg v9) → rec M11 l1 (l2 + 1)))))))))
def wp_m_work_155 (K224 : ST → Int32 → Prop) (post : ST → Prop) : Nat → ST → Int32 → Int32 → Prop
  | 0 => fun _ _ _ => False
  | n + 1 => wp_m_work_155_s K224 post (wp_m_work_155 K224 post n)
set_option maxHeartbeats 4000000 in
set_option maxRecDepth 100000 in
theorem lb_m_work_155 {κ : Cx} {g : Gx} {X : ST} (hκ : CF κ g RX10 cX10_work wq_X10_work 4 rm_m_work) {post : ST → Prop} (hR : RtmV κ g 4 cX10_work X post) {K224 : ST → Int32 → Prop} (hK224 : ∀ (M : ST) (l1 : Int32), K224 M l1 → Jw κ g 4 X M [(0, .ref (g.2.1 11)), (1, .int l1)] 224 []) : ∀ (n : Nat) (M : ST) (l1 : Int32) (l2 : Int32), wp_m_work_155 K224 post n M l1 l2 → Jw κ g 4 X M [(0, .ref (g.2.1 11)), (1, .int l1), (2, .int l2)] 155 [] := by
  intro n
  induction n with
  | zero =>
    intro M l1 l2  h
    exact h.elim
  | succ n ih =>
    intro M l1 l2  h
    have h : wp_m_work_155_s K224 post (wp_m_work_155 K224 post n) M l1 l2 := h
    unfold wp_m_work_155_s at h
    refine j_iload_n (pc' := 156) hκ 2 rfl rfl dX10_work_155 rfl ?_
    refine j_sipush (pc' := 159) (v := 1600) hκ (by decide) dX10_work_156 rfl ?_
    refine j_icmp_ge (tgt := 224) (pc' := 162) hκ dX10_work_159 (by decide) rfl (fun c => ?_) (fun c => ?_)
    · replace h := h.1 c
      refine j_sub [0, 1] rfl ?_
      exact hK224 _ _  h
    · replace h := h.2 c
      refine j_aload_n (pc' := 163) hκ 0 rfl rfl dX10_work_162 rfl ?_
      refine jg_11_8 (pc' := 166) hκ (mi inlX10) (fl_in hκ (mc wm_7_17)) dX10_work_163 rfl ?_
      refine j_iload_n (pc' := 167) hκ 2 rfl rfl dX10_work_166 rfl ?_
      refine j_bipush (pc' := 169) (v := 40) hκ (by decide) dX10_work_167 rfl ?_
      refine j_idiv (pc' := 170) hκ (by decide) dX10_work_169 rfl ?_
      refine j_bipush (pc' := 172) (v := 40) hκ (by decide) dX10_work_170 rfl ?_
      refine j_imul (pc' := 173) hκ dX10_work_172 rfl ?_
      refine j_iload_n (pc' := 174) hκ 1 rfl rfl dX10_work_173 rfl ?_
      refine j_iadd (pc' := 175) hκ dX10_work_174 rfl ?_
      refine jm_iald (pc' := 176) hκ (ah_54 g) h.1 dX10_work_175 rfl ?_
      replace h := h.2
      refine j_aload_n (pc' := 177) hκ 0 rfl rfl dX10_work_176 rfl ?_
      refine jg_11_8 (pc' := 180) hκ (mi inlX10) (fl_in hκ (mc wm_7_17)) dX10_work_177 rfl ?_
      refine j_bipush (pc' := 182) (v := 40) hκ (by decide) dX10_work_180 rfl ?_
      refine j_iload_n (pc' := 183) hκ 1 rfl rfl dX10_work_182 rfl ?_
      refine j_imul (pc' := 184) hκ dX10_work_183 rfl ?_
      refine j_iload_n (pc' := 185) hκ 2 rfl rfl dX10_work_184 rfl ?_
      refine j_bipush (pc' := 187) (v := 40) hκ (by decide) dX10_work_185 rfl ?_
      refine j_irem (pc' := 188) hκ (by decide) dX10_work_187 rfl ?_
      refine j_iadd (pc' := 189) hκ dX10_work_188 rfl ?_
      refine jm_iald (pc' := 190) hκ (ah_54 g) h.1 dX10_work_189 rfl ?_
      replace h := h.2
      refine j_iadd (pc' := 191) hκ dX10_work_190 rfl ?_
      refine j_topi (fun v9 ev9 => ?_)
      replace h := h v9 ev9
      refine j_istore_n (pc' := 192) (lv' := [(3, .int v9), (0, .ref (g.2.1 11)), (1, .int l1), (2, .int l2)]) hκ (Nat.le_of_ble_eq_true rfl) rfl rfl dX10_work_191 rfl ?_
      refine j_aload_n (pc' := 193) hκ 1 rfl rfl dX10_work_192 rfl ?_
      refine jg_11_8 (pc' := 196) hκ (mi inlX10) (fl_in hκ (mc wm_7_17)) dX10_work_193 rfl ?_
      refine j_iload_n (pc' := 197) hκ 3 rfl rfl dX10_work_196 rfl ?_
      refine j_iload_n (pc' := 198) hκ 0 rfl rfl dX10_work_197 rfl ?_
      refine j_aload_n (pc' := 199) hκ 1 rfl rfl dX10_work_198 rfl ?_
      refine jg_11_8 (pc' := 202) hκ (mi inlX10) (fl_in hκ (mc wm_7_17)) dX10_work_199 rfl ?_
      refine j_iload_n (pc' := 203) hκ 3 rfl rfl dX10_work_202 rfl ?_
      refine jm_iald (pc' := 204) hκ (ah_54 g) h.1 dX10_work_203 rfl ?_
      replace h := h.2
      refine j_icmp_ge (tgt := 211) (pc' := 207) hκ dX10_work_204 (by decide) rfl (fun c => ?_) (fun c => ?_)
      · replace h := h.1 c
        refine j_aload_n (pc' := 212) hκ 1 rfl rfl dX10_work_211 rfl ?_
        refine jg_11_8 (pc' := 215) hκ (mi inlX10) (fl_in hκ (mc wm_7_17)) dX10_work_212 rfl ?_
        refine j_iload_n (pc' := 216) hκ 3 rfl rfl dX10_work_215 rfl ?_
        refine jm_iald (pc' := 217) hκ (ah_54 g) h.1 dX10_work_216 rfl ?_
        replace h := h.2
        refine jm_iast (pc' := 218) hκ (ah_54 g) h.1 dX10_work_217 rfl ?_
        replace h := h.2
        refine j_nmM (fun M10 eM10 => ?_)
        replace h := h M10 eM10
        refine j_iinc (pc' := 221) (v := l2 + 1) (lv' := [(2, .int (l2 + 1)), (3, .int v9), (0, .ref (g.2.1 11)), (1, .int l1)]) hκ 3 rfl rfl (Nat.le_of_ble_eq_true rfl) rfl dX10_work_218 rfl ?_
        refine j_goto (pc' := 155) hκ (by decide) dX10_work_221 ?_
        refine j_sub [2, 3, 0] rfl ?_
        exact ih _ _ _  h
      · replace h := h.2 c
        refine j_iload_n (pc' := 208) hκ 0 rfl rfl dX10_work_207 rfl ?_
        refine j_goto (pc' := 217) hκ (by decide) dX10_work_208 ?_
        refine jm_iast (pc' := 218) hκ (ah_54 g) h.1 dX10_work_217 rfl ?_
        replace h := h.2
        refine j_nmM (fun M11 eM11 => ?_)
        replace h := h M11 eM11
        refine j_iinc (pc' := 221) (v := l2 + 1) (lv' := [(2, .int (l2 + 1)), (3, .int v9), (0, .ref (g.2.1 11)), (1, .int l1)]) hκ 3 rfl rfl (Nat.le_of_ble_eq_true rfl) rfl dX10_work_218 rfl ?_
        refine j_goto (pc' := 155) hκ (by decide) dX10_work_221 ?_
        refine j_sub [2, 3, 0] rfl ?_
        exact ih _ _ _  h
def wp_m_work_147_s (K230 : ST → Prop) (post : ST → Prop) (rec : ST → Int32 → Prop) (M : ST) (l1 : Int32) : Prop :=
  (40 ≤ l1 → (K230 M)) ∧ (¬ 40 ≤ l1 → (∃ n, wp_m_work_155 (fun M12 v13 => rec M12 (v13 + 1)) post n M l1 0))
def wp_m_work_147 (K230 : ST → Prop) (post : ST → Prop) : Nat → ST → Int32 → Prop
  | 0 => fun _ _ => False
  | n + 1 => wp_m_work_147_s K230 post (wp_m_work_147 K230 post n)
set_option maxHeartbeats 4000000 in
set_option maxRecDepth 100000 in
theorem lb_m_work_147 {κ : Cx} {g : Gx} {X : ST} (hκ : CF κ g RX10 cX10_work wq_X10_work 4 rm_m_work) {post : ST → Prop} (hR : RtmV κ g 4 cX10_work X post) {K230 : ST → Prop} (hK230 : ∀ (M : ST), K230 M → Jw κ g 4 X M [] 230 []) : ∀ (n : Nat) (M : ST) (l1 : Int32), wp_m_work_147 K230 post n M l1 → Jw κ g 4 X M [(0, .ref (g.2.1 11)), (1, .int l1)] 147 [] := by
  intro n
  induction n with
  | zero =>
    intro M l1  h
    exact h.elim
  | succ n ih =>
    intro M l1  h
    have h : wp_m_work_147_s K230 post (wp_m_work_147 K230 post n) M l1 := h
    unfold wp_m_work_147_s at h
    refine j_iload_n (pc' := 148) hκ 1 rfl rfl dX10_work_147 rfl ?_
    refine j_bipush (pc' := 150) (v := 40) hκ (by decide) dX10_work_148 rfl ?_
    refine j_icmp_ge (tgt := 230) (pc' := 153) hκ dX10_work_150 (by decide) rfl (fun c => ?_) (fun c => ?_)
    · replace h := h.1 c
      refine j_sub [] rfl ?_
      exact hK230 _  h
    · replace h := h.2 c
      refine j_iconst (pc' := 154) (v := 0) hκ (by decide) dX10_work_153 rfl ?_
      refine j_istore_n (pc' := 155) (lv' := [(2, .int 0), (0, .ref (g.2.1 11)), (1, .int l1)]) hκ (Nat.le_of_ble_eq_true rfl) rfl rfl dX10_work_154 rfl ?_
      obtain ⟨n, h⟩ := h
      refine j_sub [1, 2, 0] rfl ?_
      refine lb_m_work_155 hκ hR ?_ n _ _ _  h
      intro M12 v13  h
      refine j_iinc (pc' := 227) (v := v13 + 1) (lv' := [(1, .int (v13 + 1)), (0, .ref (g.2.1 11))]) hκ 1 rfl rfl (Nat.le_of_ble_eq_true rfl) rfl dX10_work_224 rfl ?_
      refine j_goto (pc' := 147) hκ (by decide) dX10_work_227 ?_
      refine j_sub [1, 0] rfl ?_
      exact ih _ _  h
def wp_m_work (M : ST) (post : ST → Prop) : Prop :=
  ∃ n, wp_m_work_2 (fun M3 => ∃ n, wp_m_work_40 (fun M8 => ∃ n, wp_m_work_147 (fun M14 => post M14) post n M8 0) post n M3 0) post n M 0
set_option maxHeartbeats 4000000 in
set_option maxRecDepth 100000 in
theorem lb_m_work {κ : Cx} {g : Gx} {X : ST} (hκ : CF κ g RX10 cX10_work wq_X10_work 4 rm_m_work) {post : ST → Prop} (hR : RtmV κ g 4 cX10_work X post) {M : ST} (h : wp_m_work M post) : Jw κ g 4 X M [(0, .ref (g.2.1 11))] 0 [] := by
  unfold wp_m_work at h
  refine j_iconst (pc' := 1) (v := 0) hκ (by decide) dX10_work_0 rfl ?_
  refine j_istore_n (pc' := 2) (lv' := [(1, .int 0), (0, .ref (g.2.1 11))]) hκ (Nat.le_of_ble_eq_true rfl) rfl rfl dX10_work_1 rfl ?_
  obtain ⟨n, h⟩ := h
  refine j_sub [1, 0] rfl ?_
  refine lb_m_work_2 hκ hR ?_ n _ _  h
  intro M3  h
  refine j_iconst (pc' := 39) (v := 0) hκ (by decide) dX10_work_38 rfl ?_
  refine j_istore_n (pc' := 40) (lv' := [(1, .int 0), (0, .ref (g.2.1 11))]) hκ (Nat.le_of_ble_eq_true rfl) rfl rfl dX10_work_39 rfl ?_
  obtain ⟨n, h⟩ := h
  refine j_sub [1, 0] rfl ?_
  refine lb_m_work_40 hκ hR ?_ n _ _  h
  intro M8  h
  refine j_iconst (pc' := 146) (v := 0) hκ (by decide) dX10_work_145 rfl ?_
  refine j_istore_n (pc' := 147) (lv' := [(1, .int 0), (0, .ref (g.2.1 11))]) hκ (Nat.le_of_ble_eq_true rfl) rfl rfl dX10_work_146 rfl ?_
  obtain ⟨n, h⟩ := h
  refine j_sub [1, 0] rfl ?_
  refine lb_m_work_147 hκ hR ?_ n _ _  h
  intro M14  h
  exact hR _ _ _ dX10_work_230 h
theorem c_m_work {g : Gx} (hg : Dg g) {X M : ST} {post : ST → Prop} (h : wp_m_work M post) (l : Launch) : Met l yX10_work wq_X10_work rm_m_work (va_Pc [.ref (g.2.1 11)] (PU g X M)) (va_Qv post (fun Y t => va_P g.1 vwCl (ww g X Y) t.heap) (wA g)) 0 0 (wA g) :=
  met_mv hg (by decide) rfl [.ref (g.2.1 11)] rfl (Nat.le_of_ble_eq_true rfl) (fun κ hκ hR => lb_m_work hκ hR h) l
theorem wm_8_15 : Cond.methodLink RX10 99 yX10_work ∈ wAll := inr_8 (List.mem_of_getElem? (i := 15) rfl)
theorem wm_8_16 : Cond.instanceMethod yX10_work ∈ wAll := inr_8 (List.mem_of_getElem? (i := 16) rfl)
theorem wm_8_17 : Cond.selects RX10 yX10_work yX10_work ∈ wAll := inr_8 (List.mem_of_getElem? (i := 17) rfl)
theorem wm_8_18 : Cond.code yX10_work cX10_work 4 none ∈ wAll := inr_8 (List.mem_of_getElem? (i := 18) rfl)
theorem hqV_X10_work : yX10_work.cls = RX10 ∧ yX10_work.cls ≠ "java/lang/invoke/MethodHandle" ∧ yX10_work.cls ≠ "java/lang/invoke/VarHandle" ∧ (parseMethodDescriptor yX10_work.desc).map (fun d => d.parameters.length) = some 0 := by decide +kernel
abbrev rm_m_lane : Room := { frames := 1, cells := 0, slots := 0, locals := 23 }
def wp_m_lane (M : ST) (p1 : Int32) (p2 : Int32) (p3 : Int32) (post : Int32 → ST → Prop) : Prop :=
  wp_m_isCrossing M p1 (fun r2 M1 => (r2 = 0 → (post (-1) M1)) ∧ (¬ r2 = 0 → (wp_m_isCrossing M1 p2 (fun r4 M3 => (r4 = 0 → (post (-1) M3)) ∧ (¬ r4 = 0 → ((p1 = p2 → (post (-1) M3)) ∧ (¬ p1 = p2 → ((p3 < 1 → (post (-1) M3)) ∧ (¬ p3 < 1 → ((p3 ≤ 1000 → ((¬ (m_lanes M3) = 100 → (vp_in (m_lanes M3) 100 ∧ (∀ M5 : ST, M5 = ms_from M3 (upd (m_from M3) (m_lanes M3).toNatClampNeg p1) → vp_in (m_lanes M5) 100 ∧ (∀ M6 : ST, M6 = ms_to M5 (upd (m_to M5) (m_lanes M5).toNatClampNeg p2) → vp_in (m_lanes M6) 100 ∧ (∀ M7 : ST, M7 = ms_length M6 (upd (m_length M6) (m_lanes M6).toNatClampNeg p3) → vp_in (m_lanes M7) 100 ∧ (∀ M8 : ST, M8 = ms_isOpen M7 (upd (m_isOpen M7) (m_lanes M7).toNatClampNeg (vp_nar .boolean 1)) → ∀ M9 : ST, M9 = ms_lanes M8 ((m_lanes M8) + 1) → ∀ M10 : ST, M10 = ms_told M9 0 → wp_m_work M10 (fun M11 => post ((m_lanes M11) - 1) M11))))))) ∧ ((m_lanes M3) = 100 → (post (-2) M3)))) ∧ (¬ p3 ≤ 1000 → (post (-1) M3))))))))))))
set_option maxHeartbeats 4000000 in
set_option maxRecDepth 100000 in
theorem lb_m_lane {κ : Cx} {g : Gx} {X : ST} (hκ : CF κ g RX10 cX10_lane wq_X10_lane 4 rm_m_lane) {post : Int32 → ST → Prop} (hR : RtmI κ g 4 cX10_lane X post) {M : ST} {p1 : Int32} {p2 : Int32} {p3 : Int32} (h : wp_m_lane M p1 p2 p3 post) : Jw κ g 4 X M [(0, .ref (g.2.1 11)), (1, .int p1), (2, .int p2), (3, .int p3)] 0 [] := by
  unfold wp_m_lane at h
  refine j_iload_n (pc' := 1) hκ 1 rfl rfl dX10_lane_0 rfl ?_
  refine jm_callSi (pc' := 4) hκ (c_m_isCrossing (dg hκ) h) rfl rfl rfl (gS wm_10_9 wm_10_10 wm_1_5 wm_10_11) hqS_X10_isCrossing ⟨Nat.le_of_ble_eq_true rfl, Nat.le_of_ble_eq_true rfl⟩ rfl rfl (Nat.le_of_ble_eq_true rfl) dX10_lane_1 rfl (fun r2 M1 h => ?_)
  refine j_if_eq (tgt := 31) (pc' := 7) hκ dX10_lane_4 (by decide) rfl (fun c => ?_) (fun c => ?_)
  · replace h := h.1 c
    refine j_iconst (pc' := 32) (v := (-1)) hκ (by decide) dX10_lane_31 rfl ?_
    exact hR _ _ _ _ dX10_lane_32 h
  · replace h := h.2 c
    refine j_iload_n (pc' := 8) hκ 2 rfl rfl dX10_lane_7 rfl ?_
    refine jm_callSi (pc' := 11) hκ (c_m_isCrossing (dg hκ) h) rfl rfl rfl (gS wm_10_9 wm_10_10 wm_1_5 wm_10_11) hqS_X10_isCrossing ⟨Nat.le_of_ble_eq_true rfl, Nat.le_of_ble_eq_true rfl⟩ rfl rfl (Nat.le_of_ble_eq_true rfl) dX10_lane_8 rfl (fun r4 M3 h => ?_)
    refine j_if_eq (tgt := 31) (pc' := 14) hκ dX10_lane_11 (by decide) rfl (fun c => ?_) (fun c => ?_)
    · replace h := h.1 c
      refine j_iconst (pc' := 32) (v := (-1)) hκ (by decide) dX10_lane_31 rfl ?_
      exact hR _ _ _ _ dX10_lane_32 h
    · replace h := h.2 c
      refine j_iload_n (pc' := 15) hκ 1 rfl rfl dX10_lane_14 rfl ?_
      refine j_iload_n (pc' := 16) hκ 2 rfl rfl dX10_lane_15 rfl ?_
      refine j_icmp_eq (tgt := 31) (pc' := 19) hκ dX10_lane_16 (by decide) rfl (fun c => ?_) (fun c => ?_)
      · replace h := h.1 c
        refine j_iconst (pc' := 32) (v := (-1)) hκ (by decide) dX10_lane_31 rfl ?_
        exact hR _ _ _ _ dX10_lane_32 h
      · replace h := h.2 c
        refine j_iload_n (pc' := 20) hκ 3 rfl rfl dX10_lane_19 rfl ?_
        refine j_iconst (pc' := 21) (v := 1) hκ (by decide) dX10_lane_20 rfl ?_
        refine j_icmp_lt (tgt := 31) (pc' := 24) hκ dX10_lane_21 (by decide) rfl (fun c => ?_) (fun c => ?_)
        · replace h := h.1 c
          refine j_iconst (pc' := 32) (v := (-1)) hκ (by decide) dX10_lane_31 rfl ?_
          exact hR _ _ _ _ dX10_lane_32 h
        · replace h := h.2 c
          refine j_iload_n (pc' := 25) hκ 3 rfl rfl dX10_lane_24 rfl ?_
          refine j_sipush (pc' := 28) (v := 1000) hκ (by decide) dX10_lane_25 rfl ?_
          refine j_icmp_le (tgt := 33) (pc' := 31) hκ dX10_lane_28 (by decide) rfl (fun c => ?_) (fun c => ?_)
          · replace h := h.1 c
            refine j_aload_n (pc' := 34) hκ 0 rfl rfl dX10_lane_33 rfl ?_
            refine jg_11_0 (pc' := 37) hκ (mi inlX10) (fl_in hκ (mc wm_8_20)) dX10_lane_34 rfl ?_
            refine j_bipush (pc' := 39) (v := 100) hκ (by decide) dX10_lane_37 rfl ?_
            refine j_icmp_ne (tgt := 45) (pc' := 42) hκ dX10_lane_39 (by decide) rfl (fun c => ?_) (fun c => ?_)
            · replace h := h.1 c
              refine j_aload_n (pc' := 46) hκ 0 rfl rfl dX10_lane_45 rfl ?_
              refine jg_11_1 (pc' := 49) hκ (mi inlX10) (fl_in hκ (mc wm_7_10)) dX10_lane_46 rfl ?_
              refine j_aload_n (pc' := 50) hκ 0 rfl rfl dX10_lane_49 rfl ?_
              refine jg_11_0 (pc' := 53) hκ (mi inlX10) (fl_in hκ (mc wm_8_20)) dX10_lane_50 rfl ?_
              refine j_iload_n (pc' := 54) hκ 1 rfl rfl dX10_lane_53 rfl ?_
              refine jm_iast (pc' := 55) hκ (ah_47 g) h.1 dX10_lane_54 rfl ?_
              replace h := h.2
              refine j_nmM (fun M5 eM5 => ?_)
              replace h := h M5 eM5
              refine j_aload_n (pc' := 56) hκ 0 rfl rfl dX10_lane_55 rfl ?_
              refine jg_11_2 (pc' := 59) hκ (mi inlX10) (fl_in hκ (mc wm_7_11)) dX10_lane_56 rfl ?_
              refine j_aload_n (pc' := 60) hκ 0 rfl rfl dX10_lane_59 rfl ?_
              refine jg_11_0 (pc' := 63) hκ (mi inlX10) (fl_in hκ (mc wm_8_20)) dX10_lane_60 rfl ?_
              refine j_iload_n (pc' := 64) hκ 2 rfl rfl dX10_lane_63 rfl ?_
              refine jm_iast (pc' := 65) hκ (ah_48 g) h.1 dX10_lane_64 rfl ?_
              replace h := h.2
              refine j_nmM (fun M6 eM6 => ?_)
              replace h := h M6 eM6
              refine j_aload_n (pc' := 66) hκ 0 rfl rfl dX10_lane_65 rfl ?_
              refine jg_11_3 (pc' := 69) hκ (mi inlX10) (fl_in hκ (mc wm_7_12)) dX10_lane_66 rfl ?_
              refine j_aload_n (pc' := 70) hκ 0 rfl rfl dX10_lane_69 rfl ?_
              refine jg_11_0 (pc' := 73) hκ (mi inlX10) (fl_in hκ (mc wm_8_20)) dX10_lane_70 rfl ?_
              refine j_iload_n (pc' := 74) hκ 3 rfl rfl dX10_lane_73 rfl ?_
              refine jm_iast (pc' := 75) hκ (ah_49 g) h.1 dX10_lane_74 rfl ?_
              replace h := h.2
              refine j_nmM (fun M7 eM7 => ?_)
              replace h := h M7 eM7
              refine j_aload_n (pc' := 76) hκ 0 rfl rfl dX10_lane_75 rfl ?_
              refine jg_11_4 (pc' := 79) hκ (mi inlX10) (fl_in hκ (mc wm_7_13)) dX10_lane_76 rfl ?_
              refine j_aload_n (pc' := 80) hκ 0 rfl rfl dX10_lane_79 rfl ?_
              refine jg_11_0 (pc' := 83) hκ (mi inlX10) (fl_in hκ (mc wm_8_20)) dX10_lane_80 rfl ?_
              refine j_iconst (pc' := 84) (v := 1) hκ (by decide) dX10_lane_83 rfl ?_
              refine jm_zast (pc' := 85) hκ (ah_50 g) h.1 dX10_lane_84 rfl ?_
              replace h := h.2
              refine j_nmM (fun M8 eM8 => ?_)
              replace h := h M8 eM8
              refine j_aload_n (pc' := 86) hκ 0 rfl rfl dX10_lane_85 rfl ?_
              refine j_dup (pc' := 87) hκ rfl dX10_lane_86 rfl ?_
              refine jg_11_0 (pc' := 90) hκ (mi inlX10) (fl_in hκ (mc wm_8_20)) dX10_lane_87 rfl ?_
              refine j_iconst (pc' := 91) (v := 1) hκ (by decide) dX10_lane_90 rfl ?_
              refine j_iadd (pc' := 92) hκ dX10_lane_91 rfl ?_
              refine jp_11_0 (pc' := 95) hκ (mi inlX10) (fl_in hκ (mc wm_8_20)) dX10_lane_92 rfl ?_
              refine j_nmM (fun M9 eM9 => ?_)
              replace h := h M9 eM9
              refine j_aload_n (pc' := 96) hκ 0 rfl rfl dX10_lane_95 rfl ?_
              refine j_iconst (pc' := 97) (v := 0) hκ (by decide) dX10_lane_96 rfl ?_
              refine jp_11_15 (pc' := 100) hκ (mi inlX10) (fl_in hκ (mc wm_10_8)) dX10_lane_97 rfl ?_
              refine j_nmM (fun M10 eM10 => ?_)
              replace h := h M10 eM10
              refine j_aload_n (pc' := 101) hκ 0 rfl rfl dX10_lane_100 rfl ?_
              refine jm_callVv (pc' := 104) hκ (c_m_work (dg hκ) h) rfl rfl rfl (gV wm_8_15 wm_8_16 wm_8_17 wm_1_5 wm_8_18) hqV_X10_work ⟨Nat.le_of_ble_eq_true rfl, Nat.le_of_ble_eq_true rfl⟩ (wg_11 g _ _) rfl rfl rfl (Nat.le_of_ble_eq_true rfl) dX10_lane_101 rfl (fun M11 h => ?_)
              refine j_aload_n (pc' := 105) hκ 0 rfl rfl dX10_lane_104 rfl ?_
              refine jg_11_0 (pc' := 108) hκ (mi inlX10) (fl_in hκ (mc wm_8_20)) dX10_lane_105 rfl ?_
              refine j_iconst (pc' := 109) (v := 1) hκ (by decide) dX10_lane_108 rfl ?_
              refine j_isub (pc' := 110) hκ dX10_lane_109 rfl ?_
              exact hR _ _ _ _ dX10_lane_110 h
            · replace h := h.2 c
              refine j_bipush (pc' := 44) (v := (-2)) hκ (by decide) dX10_lane_42 rfl ?_
              exact hR _ _ _ _ dX10_lane_44 h
          · replace h := h.2 c
            refine j_iconst (pc' := 32) (v := (-1)) hκ (by decide) dX10_lane_31 rfl ?_
            exact hR _ _ _ _ dX10_lane_32 h
theorem c_m_lane {g : Gx} (hg : Dg g) {X M : ST} {p1 : Int32} {p2 : Int32} {p3 : Int32} {post : Int32 → ST → Prop} (h : wp_m_lane M p1 p2 p3 post) (l : Launch) : Met l yX10_lane wq_X10_lane rm_m_lane (va_Pc [.ref (g.2.1 11), .int p1, .int p2, .int p3] (PU g X M)) (va_Qi post (fun Y t => va_P g.1 vwCl (ww g X Y) t.heap) (wA g)) 0 0 (wA g) :=
  met_mi hg (by decide) rfl [.ref (g.2.1 11), .int p1, .int p2, .int p3] rfl (Nat.le_of_ble_eq_true rfl) (fun κ hκ hR => lb_m_lane hκ hR h) l
abbrev rm_m_isLane : Room := { frames := 0, cells := 0, slots := 0, locals := 0 }
def wp_m_isLane (M : ST) (p1 : Int32) (post : Int32 → ST → Prop) : Prop :=
  (p1 < 0 → (post 0 M)) ∧ (¬ p1 < 0 → (((m_lanes M) ≤ p1 → (post 0 M)) ∧ (¬ (m_lanes M) ≤ p1 → (post 1 M))))
set_option maxHeartbeats 4000000 in
set_option maxRecDepth 100000 in
theorem lb_m_isLane {κ : Cx} {g : Gx} {X : ST} (hκ : CF κ g RX10 cX10_isLane wq_X10_isLane 2 rm_m_isLane) {post : Int32 → ST → Prop} (hR : RtmZ κ g 2 cX10_isLane X post) {M : ST} {p1 : Int32} (h : wp_m_isLane M p1 post) : Jw κ g 2 X M [(0, .ref (g.2.1 11)), (1, .int p1)] 0 [] := by
  unfold wp_m_isLane at h
  refine j_iload_n (pc' := 1) hκ 1 rfl rfl dX10_isLane_0 rfl ?_
  refine j_if_lt (tgt := 16) (pc' := 4) hκ dX10_isLane_1 (by decide) rfl (fun c => ?_) (fun c => ?_)
  · replace h := h.1 c
    refine j_iconst (pc' := 17) (v := 0) hκ (by decide) dX10_isLane_16 rfl ?_
    exact hR _ _ _ _ dX10_isLane_17 (Or.inl rfl) h
  · replace h := h.2 c
    refine j_iload_n (pc' := 5) hκ 1 rfl rfl dX10_isLane_4 rfl ?_
    refine j_aload_n (pc' := 6) hκ 0 rfl rfl dX10_isLane_5 rfl ?_
    refine jg_11_0 (pc' := 9) hκ (mi inlX10) (fl_in hκ (mc wm_8_20)) dX10_isLane_6 rfl ?_
    refine j_icmp_ge (tgt := 16) (pc' := 12) hκ dX10_isLane_9 (by decide) rfl (fun c => ?_) (fun c => ?_)
    · replace h := h.1 c
      refine j_iconst (pc' := 17) (v := 0) hκ (by decide) dX10_isLane_16 rfl ?_
      exact hR _ _ _ _ dX10_isLane_17 (Or.inl rfl) h
    · replace h := h.2 c
      refine j_iconst (pc' := 13) (v := 1) hκ (by decide) dX10_isLane_12 rfl ?_
      refine j_goto (pc' := 17) hκ (by decide) dX10_isLane_13 ?_
      exact hR _ _ _ _ dX10_isLane_17 (Or.inr rfl) h
theorem c_m_isLane {g : Gx} (hg : Dg g) {X M : ST} {p1 : Int32} {post : Int32 → ST → Prop} (h : wp_m_isLane M p1 post) (l : Launch) : Met l yX10_isLane wq_X10_isLane rm_m_isLane (va_Pc [.ref (g.2.1 11), .int p1] (PU g X M)) (va_Qi post (fun Y t => va_P g.1 vwCl (ww g X Y) t.heap) (wA g)) 0 0 (wA g) :=
  met_mz hg (by decide) rfl [.ref (g.2.1 11), .int p1] rfl (Nat.le_of_ble_eq_true rfl) (fun κ hκ hR => lb_m_isLane hκ hR h) l
theorem wm_11_0 : Cond.methodLink RX10 120 yX10_isLane ∈ wAll := inr_11 (List.mem_of_getElem? (i := 0) rfl)
theorem wm_11_1 : Cond.instanceMethod yX10_isLane ∈ wAll := inr_11 (List.mem_of_getElem? (i := 1) rfl)
theorem wm_11_2 : Cond.selects RX10 yX10_isLane yX10_isLane ∈ wAll := inr_11 (List.mem_of_getElem? (i := 2) rfl)
theorem wm_11_3 : Cond.code yX10_isLane cX10_isLane 2 (some .boolean) ∈ wAll := inr_11 (List.mem_of_getElem? (i := 3) rfl)
theorem hqV_X10_isLane : yX10_isLane.cls = RX10 ∧ yX10_isLane.cls ≠ "java/lang/invoke/MethodHandle" ∧ yX10_isLane.cls ≠ "java/lang/invoke/VarHandle" ∧ (parseMethodDescriptor yX10_isLane.desc).map (fun d => d.parameters.length) = some 1 := by decide +kernel
abbrev rm_m_open : Room := { frames := 1, cells := 0, slots := 0, locals := 23 }
def wp_m_open (M : ST) (p1 : Int32) (p2 : Int32) (post : Int32 → ST → Prop) : Prop :=
  wp_m_isLane M p1 (fun r2 M1 => (¬ r2 = 0 → (vp_in p1 100 ∧ ((¬ (m_isOpen M1 p1.toNatClampNeg) = p2 → (vp_in p1 100 ∧ (∀ M3 : ST, M3 = ms_isOpen M1 (upd (m_isOpen M1) p1.toNatClampNeg (vp_nar .boolean p2)) → ∀ M4 : ST, M4 = ms_told M3 0 → wp_m_work M4 (fun M5 => post 1 M5)))) ∧ ((m_isOpen M1 p1.toNatClampNeg) = p2 → (post 0 M1))))) ∧ (r2 = 0 → (post (-1) M1)))
set_option maxHeartbeats 4000000 in
set_option maxRecDepth 100000 in
theorem lb_m_open {κ : Cx} {g : Gx} {X : ST} (hκ : CF κ g RX10 cX10_open wq_X10_open 3 rm_m_open) {post : Int32 → ST → Prop} (hR : RtmI κ g 3 cX10_open X post) {M : ST} {p1 : Int32} {p2 : Int32} (h : wp_m_open M p1 p2 post) : Jw κ g 3 X M [(0, .ref (g.2.1 11)), (1, .int p1), (2, .int p2)] 0 [] := by
  unfold wp_m_open at h
  refine j_aload_n (pc' := 1) hκ 0 rfl rfl dX10_open_0 rfl ?_
  refine j_iload_n (pc' := 2) hκ 1 rfl rfl dX10_open_1 rfl ?_
  refine jm_callVi (pc' := 5) hκ (c_m_isLane (dg hκ) h) rfl rfl rfl (gV wm_11_0 wm_11_1 wm_11_2 wm_1_5 wm_11_3) hqV_X10_isLane ⟨Nat.le_of_ble_eq_true rfl, Nat.le_of_ble_eq_true rfl⟩ (wg_11 g _ _) rfl rfl rfl (Nat.le_of_ble_eq_true rfl) dX10_open_2 rfl (fun r2 M1 h => ?_)
  refine j_if_ne (tgt := 10) (pc' := 8) hκ dX10_open_5 (by decide) rfl (fun c => ?_) (fun c => ?_)
  · replace h := h.1 c
    refine j_aload_n (pc' := 11) hκ 0 rfl rfl dX10_open_10 rfl ?_
    refine jg_11_4 (pc' := 14) hκ (mi inlX10) (fl_in hκ (mc wm_7_13)) dX10_open_11 rfl ?_
    refine j_iload_n (pc' := 15) hκ 1 rfl rfl dX10_open_14 rfl ?_
    refine jm_zald (pc' := 16) hκ (ah_50 g) h.1 dX10_open_15 rfl ?_
    replace h := h.2
    refine j_iload_n (pc' := 17) hκ 2 rfl rfl dX10_open_16 rfl ?_
    refine j_icmp_ne (tgt := 22) (pc' := 20) hκ dX10_open_17 (by decide) rfl (fun c => ?_) (fun c => ?_)
    · replace h := h.1 c
      refine j_aload_n (pc' := 23) hκ 0 rfl rfl dX10_open_22 rfl ?_
      refine jg_11_4 (pc' := 26) hκ (mi inlX10) (fl_in hκ (mc wm_7_13)) dX10_open_23 rfl ?_
      refine j_iload_n (pc' := 27) hκ 1 rfl rfl dX10_open_26 rfl ?_
      refine j_iload_n (pc' := 28) hκ 2 rfl rfl dX10_open_27 rfl ?_
      refine jm_zast (pc' := 29) hκ (ah_50 g) h.1 dX10_open_28 rfl ?_
      replace h := h.2
      refine j_nmM (fun M3 eM3 => ?_)
      replace h := h M3 eM3
      refine j_aload_n (pc' := 30) hκ 0 rfl rfl dX10_open_29 rfl ?_
      refine j_iconst (pc' := 31) (v := 0) hκ (by decide) dX10_open_30 rfl ?_
      refine jp_11_15 (pc' := 34) hκ (mi inlX10) (fl_in hκ (mc wm_10_8)) dX10_open_31 rfl ?_
      refine j_nmM (fun M4 eM4 => ?_)
      replace h := h M4 eM4
      refine j_aload_n (pc' := 35) hκ 0 rfl rfl dX10_open_34 rfl ?_
      refine jm_callVv (pc' := 38) hκ (c_m_work (dg hκ) h) rfl rfl rfl (gV wm_8_15 wm_8_16 wm_8_17 wm_1_5 wm_8_18) hqV_X10_work ⟨Nat.le_of_ble_eq_true rfl, Nat.le_of_ble_eq_true rfl⟩ (wg_11 g _ _) rfl rfl rfl (Nat.le_of_ble_eq_true rfl) dX10_open_35 rfl (fun M5 h => ?_)
      refine j_iconst (pc' := 39) (v := 1) hκ (by decide) dX10_open_38 rfl ?_
      exact hR _ _ _ _ dX10_open_39 h
    · replace h := h.2 c
      refine j_iconst (pc' := 21) (v := 0) hκ (by decide) dX10_open_20 rfl ?_
      exact hR _ _ _ _ dX10_open_21 h
  · replace h := h.2 c
    refine j_iconst (pc' := 9) (v := (-1)) hκ (by decide) dX10_open_8 rfl ?_
    exact hR _ _ _ _ dX10_open_9 h
theorem c_m_open {g : Gx} (hg : Dg g) {X M : ST} {p1 : Int32} {p2 : Int32} {post : Int32 → ST → Prop} (h : wp_m_open M p1 p2 post) (l : Launch) : Met l yX10_open wq_X10_open rm_m_open (va_Pc [.ref (g.2.1 11), .int p1, .int p2] (PU g X M)) (va_Qi post (fun Y t => va_P g.1 vwCl (ww g X Y) t.heap) (wA g)) 0 0 (wA g) :=
  met_mi hg (by decide) rfl [.ref (g.2.1 11), .int p1, .int p2] rfl (Nat.le_of_ble_eq_true rfl) (fun κ hκ hR => lb_m_open hκ hR h) l
abbrev rm_m_about : Room := { frames := 1, cells := 0, slots := 0, locals := 21 }
def wp_m_about (M : ST) (p1 : Int32) (p2 : Int32) (post : Int32 → ST → Prop) : Prop :=
  wp_m_isLane M p1 (fun r2 M1 => (¬ r2 = 0 → ((¬ p2 = 0 → ((¬ p2 = 1 → ((¬ p2 = 2 → ((¬ p2 = 3 → (post (-1) M1)) ∧ (p2 = 3 → (vp_in p1 100 ∧ (((m_isOpen M1 p1.toNatClampNeg) = 0 → (post 0 M1)) ∧ (¬ (m_isOpen M1 p1.toNatClampNeg) = 0 → (post 1 M1))))))) ∧ (p2 = 2 → (vp_in p1 100 ∧ (post (m_length M1 p1.toNatClampNeg) M1))))) ∧ (p2 = 1 → (vp_in p1 100 ∧ (post (m_to M1 p1.toNatClampNeg) M1))))) ∧ (p2 = 0 → (vp_in p1 100 ∧ (post (m_from M1 p1.toNatClampNeg) M1))))) ∧ (r2 = 0 → (post (-1) M1)))
set_option maxHeartbeats 4000000 in
set_option maxRecDepth 100000 in
theorem lb_m_about {κ : Cx} {g : Gx} {X : ST} (hκ : CF κ g RX10 cX10_about wq_X10_about 3 rm_m_about) {post : Int32 → ST → Prop} (hR : RtmI κ g 3 cX10_about X post) {M : ST} {p1 : Int32} {p2 : Int32} (h : wp_m_about M p1 p2 post) : Jw κ g 3 X M [(0, .ref (g.2.1 11)), (1, .int p1), (2, .int p2)] 0 [] := by
  unfold wp_m_about at h
  refine j_aload_n (pc' := 1) hκ 0 rfl rfl dX10_about_0 rfl ?_
  refine j_iload_n (pc' := 2) hκ 1 rfl rfl dX10_about_1 rfl ?_
  refine jm_callVi (pc' := 5) hκ (c_m_isLane (dg hκ) h) rfl rfl rfl (gV wm_11_0 wm_11_1 wm_11_2 wm_1_5 wm_11_3) hqV_X10_isLane ⟨Nat.le_of_ble_eq_true rfl, Nat.le_of_ble_eq_true rfl⟩ (wg_11 g _ _) rfl rfl rfl (Nat.le_of_ble_eq_true rfl) dX10_about_2 rfl (fun r2 M1 h => ?_)
  refine j_if_ne (tgt := 10) (pc' := 8) hκ dX10_about_5 (by decide) rfl (fun c => ?_) (fun c => ?_)
  · replace h := h.1 c
    refine j_iload_n (pc' := 11) hκ 2 rfl rfl dX10_about_10 rfl ?_
    refine j_if_ne (tgt := 23) (pc' := 14) hκ dX10_about_11 (by decide) rfl (fun c => ?_) (fun c => ?_)
    · replace h := h.1 c
      refine j_iload_n (pc' := 24) hκ 2 rfl rfl dX10_about_23 rfl ?_
      refine j_iconst (pc' := 25) (v := 1) hκ (by decide) dX10_about_24 rfl ?_
      refine j_icmp_ne (tgt := 37) (pc' := 28) hκ dX10_about_25 (by decide) rfl (fun c => ?_) (fun c => ?_)
      · replace h := h.1 c
        refine j_iload_n (pc' := 38) hκ 2 rfl rfl dX10_about_37 rfl ?_
        refine j_iconst (pc' := 39) (v := 2) hκ (by decide) dX10_about_38 rfl ?_
        refine j_icmp_ne (tgt := 51) (pc' := 42) hκ dX10_about_39 (by decide) rfl (fun c => ?_) (fun c => ?_)
        · replace h := h.1 c
          refine j_iload_n (pc' := 52) hκ 2 rfl rfl dX10_about_51 rfl ?_
          refine j_iconst (pc' := 53) (v := 3) hκ (by decide) dX10_about_52 rfl ?_
          refine j_icmp_ne (tgt := 73) (pc' := 56) hκ dX10_about_53 (by decide) rfl (fun c => ?_) (fun c => ?_)
          · replace h := h.1 c
            refine j_iconst (pc' := 74) (v := (-1)) hκ (by decide) dX10_about_73 rfl ?_
            exact hR _ _ _ _ dX10_about_74 h
          · replace h := h.2 c
            refine j_aload_n (pc' := 57) hκ 0 rfl rfl dX10_about_56 rfl ?_
            refine jg_11_4 (pc' := 60) hκ (mi inlX10) (fl_in hκ (mc wm_7_13)) dX10_about_57 rfl ?_
            refine j_iload_n (pc' := 61) hκ 1 rfl rfl dX10_about_60 rfl ?_
            refine jm_zald (pc' := 62) hκ (ah_50 g) h.1 dX10_about_61 rfl ?_
            replace h := h.2
            refine j_if_eq (tgt := 69) (pc' := 65) hκ dX10_about_62 (by decide) rfl (fun c => ?_) (fun c => ?_)
            · replace h := h.1 c
              refine j_iconst (pc' := 70) (v := 0) hκ (by decide) dX10_about_69 rfl ?_
              refine j_goto (pc' := 74) hκ (by decide) dX10_about_70 ?_
              exact hR _ _ _ _ dX10_about_74 h
            · replace h := h.2 c
              refine j_iconst (pc' := 66) (v := 1) hκ (by decide) dX10_about_65 rfl ?_
              refine j_goto (pc' := 74) hκ (by decide) dX10_about_66 ?_
              exact hR _ _ _ _ dX10_about_74 h
        · replace h := h.2 c
          refine j_aload_n (pc' := 43) hκ 0 rfl rfl dX10_about_42 rfl ?_
          refine jg_11_3 (pc' := 46) hκ (mi inlX10) (fl_in hκ (mc wm_7_12)) dX10_about_43 rfl ?_
          refine j_iload_n (pc' := 47) hκ 1 rfl rfl dX10_about_46 rfl ?_
          refine jm_iald (pc' := 48) hκ (ah_49 g) h.1 dX10_about_47 rfl ?_
          replace h := h.2
          refine j_goto (pc' := 74) hκ (by decide) dX10_about_48 ?_
          exact hR _ _ _ _ dX10_about_74 h
      · replace h := h.2 c
        refine j_aload_n (pc' := 29) hκ 0 rfl rfl dX10_about_28 rfl ?_
        refine jg_11_2 (pc' := 32) hκ (mi inlX10) (fl_in hκ (mc wm_7_11)) dX10_about_29 rfl ?_
        refine j_iload_n (pc' := 33) hκ 1 rfl rfl dX10_about_32 rfl ?_
        refine jm_iald (pc' := 34) hκ (ah_48 g) h.1 dX10_about_33 rfl ?_
        replace h := h.2
        refine j_goto (pc' := 74) hκ (by decide) dX10_about_34 ?_
        exact hR _ _ _ _ dX10_about_74 h
    · replace h := h.2 c
      refine j_aload_n (pc' := 15) hκ 0 rfl rfl dX10_about_14 rfl ?_
      refine jg_11_1 (pc' := 18) hκ (mi inlX10) (fl_in hκ (mc wm_7_10)) dX10_about_15 rfl ?_
      refine j_iload_n (pc' := 19) hκ 1 rfl rfl dX10_about_18 rfl ?_
      refine jm_iald (pc' := 20) hκ (ah_47 g) h.1 dX10_about_19 rfl ?_
      replace h := h.2
      refine j_goto (pc' := 74) hκ (by decide) dX10_about_20 ?_
      exact hR _ _ _ _ dX10_about_74 h
  · replace h := h.2 c
    refine j_iconst (pc' := 9) (v := (-1)) hκ (by decide) dX10_about_8 rfl ?_
    exact hR _ _ _ _ dX10_about_9 h
theorem c_m_about {g : Gx} (hg : Dg g) {X M : ST} {p1 : Int32} {p2 : Int32} {post : Int32 → ST → Prop} (h : wp_m_about M p1 p2 post) (l : Launch) : Met l yX10_about wq_X10_about rm_m_about (va_Pc [.ref (g.2.1 11), .int p1, .int p2] (PU g X M)) (va_Qi post (fun Y t => va_P g.1 vwCl (ww g X Y) t.heap) (wA g)) 0 0 (wA g) :=
  met_mi hg (by decide) rfl [.ref (g.2.1 11), .int p1, .int p2] rfl (Nat.le_of_ble_eq_true rfl) (fun κ hκ hR => lb_m_about hκ hR h) l
abbrev rm_m_isRow : Room := { frames := 0, cells := 0, slots := 0, locals := 0 }
def wp_m_isRow (M : ST) (p0 : Int32) (post : Int32 → ST → Prop) : Prop :=
  (p0 < 0 → (post 0 M)) ∧ (¬ p0 < 0 → ((4 ≤ p0 → (post 0 M)) ∧ (¬ 4 ≤ p0 → (post 1 M))))
set_option maxHeartbeats 4000000 in
set_option maxRecDepth 100000 in
theorem lb_m_isRow {κ : Cx} {g : Gx} {X : ST} (hκ : CF κ g RX10 cX10_isRow wq_X10_isRow 1 rm_m_isRow) {post : Int32 → ST → Prop} (hR : RtmZ κ g 1 cX10_isRow X post) {M : ST} {p0 : Int32} (h : wp_m_isRow M p0 post) : Jw κ g 1 X M [(0, .int p0)] 0 [] := by
  unfold wp_m_isRow at h
  refine j_iload_n (pc' := 1) hκ 0 rfl rfl dX10_isRow_0 rfl ?_
  refine j_if_lt (tgt := 13) (pc' := 4) hκ dX10_isRow_1 (by decide) rfl (fun c => ?_) (fun c => ?_)
  · replace h := h.1 c
    refine j_iconst (pc' := 14) (v := 0) hκ (by decide) dX10_isRow_13 rfl ?_
    exact hR _ _ _ _ dX10_isRow_14 (Or.inl rfl) h
  · replace h := h.2 c
    refine j_iload_n (pc' := 5) hκ 0 rfl rfl dX10_isRow_4 rfl ?_
    refine j_iconst (pc' := 6) (v := 4) hκ (by decide) dX10_isRow_5 rfl ?_
    refine j_icmp_ge (tgt := 13) (pc' := 9) hκ dX10_isRow_6 (by decide) rfl (fun c => ?_) (fun c => ?_)
    · replace h := h.1 c
      refine j_iconst (pc' := 14) (v := 0) hκ (by decide) dX10_isRow_13 rfl ?_
      exact hR _ _ _ _ dX10_isRow_14 (Or.inl rfl) h
    · replace h := h.2 c
      refine j_iconst (pc' := 10) (v := 1) hκ (by decide) dX10_isRow_9 rfl ?_
      refine j_goto (pc' := 14) hκ (by decide) dX10_isRow_10 ?_
      exact hR _ _ _ _ dX10_isRow_14 (Or.inr rfl) h
theorem c_m_isRow {g : Gx} (hg : Dg g) {X M : ST} {p0 : Int32} {post : Int32 → ST → Prop} (h : wp_m_isRow M p0 post) (l : Launch) : Met l yX10_isRow wq_X10_isRow rm_m_isRow (va_Pc [.int p0] (PU g X M)) (va_Qi post (fun Y t => va_P g.1 vwCl (ww g X Y) t.heap) (wA g)) 0 0 (wA g) :=
  met_mz hg (by decide) rfl [.int p0] rfl (Nat.le_of_ble_eq_true rfl) (fun κ hκ hR => lb_m_isRow hκ hR h) l
theorem wm_12_7 : Cond.methodLink RX10 123 yX10_isRow ∈ wAll := inr_12 (List.mem_of_getElem? (i := 7) rfl)
theorem wm_12_8 : Cond.static yX10_isRow ∈ wAll := inr_12 (List.mem_of_getElem? (i := 8) rfl)
theorem wm_12_9 : Cond.code yX10_isRow cX10_isRow 1 (some .boolean) ∈ wAll := inr_12 (List.mem_of_getElem? (i := 9) rfl)
theorem hqS_X10_isRow : yX10_isRow.cls ≠ "java/lang/invoke/MethodHandle" ∧ yX10_isRow.cls ≠ "java/lang/invoke/VarHandle" ∧ (parseMethodDescriptor yX10_isRow.desc).map (fun d => d.parameters.length) = some 1 := by decide +kernel
theorem wm_7_14 : Cond.fieldLink RX10 23 "LampRoundModel" "rowKind" "[I" ∈ wAll := inr_7 (List.mem_of_getElem? (i := 14) rfl)
theorem wm_7_15 : Cond.fieldLink RX10 26 "LampRoundModel" "rowSize" "[I" ∈ wAll := inr_7 (List.mem_of_getElem? (i := 15) rfl)
theorem wm_7_16 : Cond.fieldLink RX10 29 "LampRoundModel" "cell" "[J" ∈ wAll := inr_7 (List.mem_of_getElem? (i := 16) rfl)
abbrev rm_m_row : Room := { frames := 1, cells := 0, slots := 0, locals := 20 }
def wp_m_row_50_s (K75 : ST → Prop) (post : Int32 → ST → Prop) (rec : ST → Int32 → Int32 → Int32 → Prop) (M : ST) (l1 : Int32) (l3 : Int32) (l4 : Int32) : Prop :=
  (l3 ≤ l4 → (K75 M)) ∧ (¬ l3 ≤ l4 → (vp_in ((50 * l1) + l4) 200 ∧ (∀ M5 : ST, M5 = ms_cell M (vp_updL (m_cell M) ((50 * l1) + l4).toNatClampNeg 1) → rec M5 l1 l3 (l4 + 1))))
def wp_m_row_50 (K75 : ST → Prop) (post : Int32 → ST → Prop) : Nat → ST → Int32 → Int32 → Int32 → Prop
  | 0 => fun _ _ _ _ => False
  | n + 1 => wp_m_row_50_s K75 post (wp_m_row_50 K75 post n)
set_option maxHeartbeats 4000000 in
set_option maxRecDepth 100000 in
theorem lb_m_row_50 {κ : Cx} {g : Gx} {X : ST} (hκ : CF κ g RX10 cX10_row wq_X10_row 5 rm_m_row) {post : Int32 → ST → Prop} (hR : RtmI κ g 5 cX10_row X post) {K75 : ST → Prop} (hK75 : ∀ (M : ST), K75 M → Jw κ g 5 X M [] 75 []) : ∀ (n : Nat) (M : ST) (l1 : Int32) (l3 : Int32) (l4 : Int32), wp_m_row_50 K75 post n M l1 l3 l4 → Jw κ g 5 X M [(0, .ref (g.2.1 11)), (1, .int l1), (3, .int l3), (4, .int l4)] 50 [] := by
  intro n
  induction n with
  | zero =>
    intro M l1 l3 l4  h
    exact h.elim
  | succ n ih =>
    intro M l1 l3 l4  h
    have h : wp_m_row_50_s K75 post (wp_m_row_50 K75 post n) M l1 l3 l4 := h
    unfold wp_m_row_50_s at h
    refine j_iload (pc' := 52) hκ 3 rfl dX10_row_50 rfl ?_
    refine j_iload_n (pc' := 53) hκ 2 rfl rfl dX10_row_52 rfl ?_
    refine j_icmp_ge (tgt := 75) (pc' := 56) hκ dX10_row_53 (by decide) rfl (fun c => ?_) (fun c => ?_)
    · replace h := h.1 c
      refine j_sub [] rfl ?_
      exact hK75 _  h
    · replace h := h.2 c
      refine j_aload_n (pc' := 57) hκ 0 rfl rfl dX10_row_56 rfl ?_
      refine jg_11_7 (pc' := 60) hκ (mi inlX10) (fl_in hκ (mc wm_7_16)) dX10_row_57 rfl ?_
      refine j_bipush (pc' := 62) (v := 50) hκ (by decide) dX10_row_60 rfl ?_
      refine j_iload_n (pc' := 63) hκ 1 rfl rfl dX10_row_62 rfl ?_
      refine j_imul (pc' := 64) hκ dX10_row_63 rfl ?_
      refine j_iload (pc' := 66) hκ 3 rfl dX10_row_64 rfl ?_
      refine j_iadd (pc' := 67) hκ dX10_row_66 rfl ?_
      refine j_lconst (pc' := 68) (v := 1) hκ (by decide) dX10_row_67 rfl ?_
      refine jm_last (pc' := 69) hκ (ah_53 g) h.1 dX10_row_68 rfl ?_
      replace h := h.2
      refine j_nmM (fun M5 eM5 => ?_)
      replace h := h M5 eM5
      refine j_iinc (pc' := 72) (v := l4 + 1) (lv' := [(4, .int (l4 + 1)), (0, .ref (g.2.1 11)), (1, .int l1), (3, .int l3)]) hκ 3 rfl rfl (Nat.le_of_ble_eq_true rfl) rfl dX10_row_69 rfl ?_
      refine j_goto (pc' := 50) hκ (by decide) dX10_row_72 ?_
      refine j_sub [1, 2, 3, 0] rfl ?_
      exact ih _ _ _ _  h
def wp_m_row (M : ST) (p1 : Int32) (p2 : Int32) (p3 : Int32) (post : Int32 → ST → Prop) : Prop :=
  wp_m_isRow M p1 (fun r2 M1 => (r2 = 0 → (post (-1) M1)) ∧ (¬ r2 = 0 → ((p2 < 0 → (post (-1) M1)) ∧ (¬ p2 < 0 → ((p2 ≤ 2 → ((0 ≤ p3 → ((p3 ≤ 50 → (vp_in p1 4 ∧ (∀ M3 : ST, M3 = ms_rowKind M1 (upd (m_rowKind M1) p1.toNatClampNeg p2) → vp_in p1 4 ∧ (∀ M4 : ST, M4 = ms_rowSize M3 (upd (m_rowSize M3) p1.toNatClampNeg p3) → ∃ n, wp_m_row_50 (fun M6 => post 1 M6) post n M4 p1 p3 0)))) ∧ (¬ p3 ≤ 50 → (post (-1) M1)))) ∧ (¬ 0 ≤ p3 → (post (-6) M1)))) ∧ (¬ p2 ≤ 2 → (post (-1) M1)))))))
set_option maxHeartbeats 4000000 in
set_option maxRecDepth 100000 in
theorem lb_m_row {κ : Cx} {g : Gx} {X : ST} (hκ : CF κ g RX10 cX10_row wq_X10_row 5 rm_m_row) {post : Int32 → ST → Prop} (hR : RtmI κ g 5 cX10_row X post) {M : ST} {p1 : Int32} {p2 : Int32} {p3 : Int32} (h : wp_m_row M p1 p2 p3 post) : Jw κ g 5 X M [(0, .ref (g.2.1 11)), (1, .int p1), (2, .int p2), (3, .int p3)] 0 [] := by
  unfold wp_m_row at h
  refine j_iload_n (pc' := 1) hκ 1 rfl rfl dX10_row_0 rfl ?_
  refine jm_callSi (pc' := 4) hκ (c_m_isRow (dg hκ) h) rfl rfl rfl (gS wm_12_7 wm_12_8 wm_1_5 wm_12_9) hqS_X10_isRow ⟨Nat.le_of_ble_eq_true rfl, Nat.le_of_ble_eq_true rfl⟩ rfl rfl (Nat.le_of_ble_eq_true rfl) dX10_row_1 rfl (fun r2 M1 h => ?_)
  refine j_if_eq (tgt := 16) (pc' := 7) hκ dX10_row_4 (by decide) rfl (fun c => ?_) (fun c => ?_)
  · replace h := h.1 c
    refine j_iconst (pc' := 17) (v := (-1)) hκ (by decide) dX10_row_16 rfl ?_
    exact hR _ _ _ _ dX10_row_17 h
  · replace h := h.2 c
    refine j_iload_n (pc' := 8) hκ 2 rfl rfl dX10_row_7 rfl ?_
    refine j_if_lt (tgt := 16) (pc' := 11) hκ dX10_row_8 (by decide) rfl (fun c => ?_) (fun c => ?_)
    · replace h := h.1 c
      refine j_iconst (pc' := 17) (v := (-1)) hκ (by decide) dX10_row_16 rfl ?_
      exact hR _ _ _ _ dX10_row_17 h
    · replace h := h.2 c
      refine j_iload_n (pc' := 12) hκ 2 rfl rfl dX10_row_11 rfl ?_
      refine j_iconst (pc' := 13) (v := 2) hκ (by decide) dX10_row_12 rfl ?_
      refine j_icmp_le (tgt := 18) (pc' := 16) hκ dX10_row_13 (by decide) rfl (fun c => ?_) (fun c => ?_)
      · replace h := h.1 c
        refine j_iload_n (pc' := 19) hκ 3 rfl rfl dX10_row_18 rfl ?_
        refine j_if_ge (tgt := 25) (pc' := 22) hκ dX10_row_19 (by decide) rfl (fun c => ?_) (fun c => ?_)
        · replace h := h.1 c
          refine j_iload_n (pc' := 26) hκ 3 rfl rfl dX10_row_25 rfl ?_
          refine j_bipush (pc' := 28) (v := 50) hκ (by decide) dX10_row_26 rfl ?_
          refine j_icmp_le (tgt := 33) (pc' := 31) hκ dX10_row_28 (by decide) rfl (fun c => ?_) (fun c => ?_)
          · replace h := h.1 c
            refine j_aload_n (pc' := 34) hκ 0 rfl rfl dX10_row_33 rfl ?_
            refine jg_11_5 (pc' := 37) hκ (mi inlX10) (fl_in hκ (mc wm_7_14)) dX10_row_34 rfl ?_
            refine j_iload_n (pc' := 38) hκ 1 rfl rfl dX10_row_37 rfl ?_
            refine j_iload_n (pc' := 39) hκ 2 rfl rfl dX10_row_38 rfl ?_
            refine jm_iast (pc' := 40) hκ (ah_51 g) h.1 dX10_row_39 rfl ?_
            replace h := h.2
            refine j_nmM (fun M3 eM3 => ?_)
            replace h := h M3 eM3
            refine j_aload_n (pc' := 41) hκ 0 rfl rfl dX10_row_40 rfl ?_
            refine jg_11_6 (pc' := 44) hκ (mi inlX10) (fl_in hκ (mc wm_7_15)) dX10_row_41 rfl ?_
            refine j_iload_n (pc' := 45) hκ 1 rfl rfl dX10_row_44 rfl ?_
            refine j_iload_n (pc' := 46) hκ 3 rfl rfl dX10_row_45 rfl ?_
            refine jm_iast (pc' := 47) hκ (ah_52 g) h.1 dX10_row_46 rfl ?_
            replace h := h.2
            refine j_nmM (fun M4 eM4 => ?_)
            replace h := h M4 eM4
            refine j_iconst (pc' := 48) (v := 0) hκ (by decide) dX10_row_47 rfl ?_
            refine j_istore (pc' := 50) (lv' := [(4, .int 0), (0, .ref (g.2.1 11)), (1, .int p1), (2, .int p2), (3, .int p3)]) hκ (Nat.le_of_ble_eq_true rfl) rfl dX10_row_48 rfl ?_
            obtain ⟨n, h⟩ := h
            refine j_sub [1, 2, 4, 0] rfl ?_
            refine lb_m_row_50 hκ hR ?_ n _ _ _ _  h
            intro M6  h
            refine j_iconst (pc' := 76) (v := 1) hκ (by decide) dX10_row_75 rfl ?_
            exact hR _ _ _ _ dX10_row_76 h
          · replace h := h.2 c
            refine j_iconst (pc' := 32) (v := (-1)) hκ (by decide) dX10_row_31 rfl ?_
            exact hR _ _ _ _ dX10_row_32 h
        · replace h := h.2 c
          refine j_bipush (pc' := 24) (v := (-6)) hκ (by decide) dX10_row_22 rfl ?_
          exact hR _ _ _ _ dX10_row_24 h
      · replace h := h.2 c
        refine j_iconst (pc' := 17) (v := (-1)) hκ (by decide) dX10_row_16 rfl ?_
        exact hR _ _ _ _ dX10_row_17 h
theorem c_m_row {g : Gx} (hg : Dg g) {X M : ST} {p1 : Int32} {p2 : Int32} {p3 : Int32} {post : Int32 → ST → Prop} (h : wp_m_row M p1 p2 p3 post) (l : Launch) : Met l yX10_row wq_X10_row rm_m_row (va_Pc [.ref (g.2.1 11), .int p1, .int p2, .int p3] (PU g X M)) (va_Qi post (fun Y t => va_P g.1 vwCl (ww g X Y) t.heap) (wA g)) 0 0 (wA g) :=
  met_mi hg (by decide) rfl [.ref (g.2.1 11), .int p1, .int p2, .int p3] rfl (Nat.le_of_ble_eq_true rfl) (fun κ hκ hR => lb_m_row hκ hR h) l
abbrev rm_m_cell : Room := { frames := 1, cells := 0, slots := 0, locals := 20 }
def wp_m_cell (M : ST) (p1 : Int32) (p2 : Int32) (p3 : Int64) (post : Int32 → ST → Prop) : Prop :=
  wp_m_isRow M p1 (fun r2 M1 => (¬ r2 = 0 → (vp_in p1 4 ∧ ((0 ≤ (m_rowSize M1 p1.toNatClampNeg) → ((p2 < 0 → (post (-1) M1)) ∧ (¬ p2 < 0 → (vp_in p1 4 ∧ ((p2 < (m_rowSize M1 p1.toNatClampNeg) → (vp_in p1 4 ∧ ((¬ (m_rowKind M1 p1.toNatClampNeg) = 0 → (vp_in p1 4 ∧ ((¬ (m_rowKind M1 p1.toNatClampNeg) = 1 → (vp_in ((50 * p1) + p2) 200 ∧ (∀ M3 : ST, M3 = ms_cell M1 (vp_updL (m_cell M1) ((50 * p1) + p2).toNatClampNeg p3) → post 1 M3))) ∧ ((m_rowKind M1 p1.toNatClampNeg) = 1 → (vp_in ((50 * p1) + p2) 200 ∧ (∀ M4 : ST, M4 = ms_cell M1 (vp_updL (m_cell M1) ((50 * p1) + p2).toNatClampNeg ((p3.toInt32).toInt64)) → post 1 M4)))))) ∧ ((m_rowKind M1 p1.toNatClampNeg) = 0 → (vp_in ((50 * p1) + p2) 200 ∧ (∀ M5 : ST, M5 = ms_cell M1 (vp_updL (m_cell M1) ((50 * p1) + p2).toNatClampNeg (((p3.toInt32).toInt16.toInt32).toInt64)) → post 1 M5)))))) ∧ (¬ p2 < (m_rowSize M1 p1.toNatClampNeg) → (post (-1) M1))))))) ∧ (¬ 0 ≤ (m_rowSize M1 p1.toNatClampNeg) → (post (-3) M1))))) ∧ (r2 = 0 → (post (-1) M1)))
set_option maxHeartbeats 4000000 in
set_option maxRecDepth 100000 in
theorem lb_m_cell {κ : Cx} {g : Gx} {X : ST} (hκ : CF κ g RX10 cX10_cell wq_X10_cell 5 rm_m_cell) {post : Int32 → ST → Prop} (hR : RtmI κ g 5 cX10_cell X post) {M : ST} {p1 : Int32} {p2 : Int32} {p3 : Int64} (h : wp_m_cell M p1 p2 p3 post) : Jw κ g 5 X M [(0, .ref (g.2.1 11)), (1, .int p1), (2, .int p2), (3, .long p3)] 0 [] := by
  unfold wp_m_cell at h
  refine j_iload_n (pc' := 1) hκ 1 rfl rfl dX10_cell_0 rfl ?_
  refine jm_callSi (pc' := 4) hκ (c_m_isRow (dg hκ) h) rfl rfl rfl (gS wm_12_7 wm_12_8 wm_1_5 wm_12_9) hqS_X10_isRow ⟨Nat.le_of_ble_eq_true rfl, Nat.le_of_ble_eq_true rfl⟩ rfl rfl (Nat.le_of_ble_eq_true rfl) dX10_cell_1 rfl (fun r2 M1 h => ?_)
  refine j_if_ne (tgt := 9) (pc' := 7) hκ dX10_cell_4 (by decide) rfl (fun c => ?_) (fun c => ?_)
  · replace h := h.1 c
    refine j_aload_n (pc' := 10) hκ 0 rfl rfl dX10_cell_9 rfl ?_
    refine jg_11_6 (pc' := 13) hκ (mi inlX10) (fl_in hκ (mc wm_7_15)) dX10_cell_10 rfl ?_
    refine j_iload_n (pc' := 14) hκ 1 rfl rfl dX10_cell_13 rfl ?_
    refine jm_iald (pc' := 15) hκ (ah_52 g) h.1 dX10_cell_14 rfl ?_
    replace h := h.2
    refine j_if_ge (tgt := 21) (pc' := 18) hκ dX10_cell_15 (by decide) rfl (fun c => ?_) (fun c => ?_)
    · replace h := h.1 c
      refine j_iload_n (pc' := 22) hκ 2 rfl rfl dX10_cell_21 rfl ?_
      refine j_if_lt (tgt := 35) (pc' := 25) hκ dX10_cell_22 (by decide) rfl (fun c => ?_) (fun c => ?_)
      · replace h := h.1 c
        refine j_iconst (pc' := 36) (v := (-1)) hκ (by decide) dX10_cell_35 rfl ?_
        exact hR _ _ _ _ dX10_cell_36 h
      · replace h := h.2 c
        refine j_iload_n (pc' := 26) hκ 2 rfl rfl dX10_cell_25 rfl ?_
        refine j_aload_n (pc' := 27) hκ 0 rfl rfl dX10_cell_26 rfl ?_
        refine jg_11_6 (pc' := 30) hκ (mi inlX10) (fl_in hκ (mc wm_7_15)) dX10_cell_27 rfl ?_
        refine j_iload_n (pc' := 31) hκ 1 rfl rfl dX10_cell_30 rfl ?_
        refine jm_iald (pc' := 32) hκ (ah_52 g) h.1 dX10_cell_31 rfl ?_
        replace h := h.2
        refine j_icmp_lt (tgt := 37) (pc' := 35) hκ dX10_cell_32 (by decide) rfl (fun c => ?_) (fun c => ?_)
        · replace h := h.1 c
          refine j_aload_n (pc' := 38) hκ 0 rfl rfl dX10_cell_37 rfl ?_
          refine jg_11_7 (pc' := 41) hκ (mi inlX10) (fl_in hκ (mc wm_7_16)) dX10_cell_38 rfl ?_
          refine j_bipush (pc' := 43) (v := 50) hκ (by decide) dX10_cell_41 rfl ?_
          refine j_iload_n (pc' := 44) hκ 1 rfl rfl dX10_cell_43 rfl ?_
          refine j_imul (pc' := 45) hκ dX10_cell_44 rfl ?_
          refine j_iload_n (pc' := 46) hκ 2 rfl rfl dX10_cell_45 rfl ?_
          refine j_iadd (pc' := 47) hκ dX10_cell_46 rfl ?_
          refine j_aload_n (pc' := 48) hκ 0 rfl rfl dX10_cell_47 rfl ?_
          refine jg_11_5 (pc' := 51) hκ (mi inlX10) (fl_in hκ (mc wm_7_14)) dX10_cell_48 rfl ?_
          refine j_iload_n (pc' := 52) hκ 1 rfl rfl dX10_cell_51 rfl ?_
          refine jm_iald (pc' := 53) hκ (ah_51 g) h.1 dX10_cell_52 rfl ?_
          replace h := h.2
          refine j_if_ne (tgt := 63) (pc' := 56) hκ dX10_cell_53 (by decide) rfl (fun c => ?_) (fun c => ?_)
          · replace h := h.1 c
            refine j_aload_n (pc' := 64) hκ 0 rfl rfl dX10_cell_63 rfl ?_
            refine jg_11_5 (pc' := 67) hκ (mi inlX10) (fl_in hκ (mc wm_7_14)) dX10_cell_64 rfl ?_
            refine j_iload_n (pc' := 68) hκ 1 rfl rfl dX10_cell_67 rfl ?_
            refine jm_iald (pc' := 69) hκ (ah_51 g) h.1 dX10_cell_68 rfl ?_
            replace h := h.2
            refine j_iconst (pc' := 70) (v := 1) hκ (by decide) dX10_cell_69 rfl ?_
            refine j_icmp_ne (tgt := 79) (pc' := 73) hκ dX10_cell_70 (by decide) rfl (fun c => ?_) (fun c => ?_)
            · replace h := h.1 c
              refine j_lload_n (pc' := 80) hκ 3 rfl rfl dX10_cell_79 rfl ?_
              refine jm_last (pc' := 81) hκ (ah_53 g) h.1 dX10_cell_80 rfl ?_
              replace h := h.2
              refine j_nmM (fun M3 eM3 => ?_)
              replace h := h M3 eM3
              refine j_iconst (pc' := 82) (v := 1) hκ (by decide) dX10_cell_81 rfl ?_
              exact hR _ _ _ _ dX10_cell_82 h
            · replace h := h.2 c
              refine j_lload_n (pc' := 74) hκ 3 rfl rfl dX10_cell_73 rfl ?_
              refine j_l2i (pc' := 75) hκ dX10_cell_74 rfl ?_
              refine j_i2l (pc' := 76) hκ dX10_cell_75 rfl ?_
              refine j_goto (pc' := 80) hκ (by decide) dX10_cell_76 ?_
              refine jm_last (pc' := 81) hκ (ah_53 g) h.1 dX10_cell_80 rfl ?_
              replace h := h.2
              refine j_nmM (fun M4 eM4 => ?_)
              replace h := h M4 eM4
              refine j_iconst (pc' := 82) (v := 1) hκ (by decide) dX10_cell_81 rfl ?_
              exact hR _ _ _ _ dX10_cell_82 h
          · replace h := h.2 c
            refine j_lload_n (pc' := 57) hκ 3 rfl rfl dX10_cell_56 rfl ?_
            refine j_l2i (pc' := 58) hκ dX10_cell_57 rfl ?_
            refine j_i2s (pc' := 59) hκ dX10_cell_58 rfl ?_
            refine j_i2l (pc' := 60) hκ dX10_cell_59 rfl ?_
            refine j_goto (pc' := 80) hκ (by decide) dX10_cell_60 ?_
            refine jm_last (pc' := 81) hκ (ah_53 g) h.1 dX10_cell_80 rfl ?_
            replace h := h.2
            refine j_nmM (fun M5 eM5 => ?_)
            replace h := h M5 eM5
            refine j_iconst (pc' := 82) (v := 1) hκ (by decide) dX10_cell_81 rfl ?_
            exact hR _ _ _ _ dX10_cell_82 h
        · replace h := h.2 c
          refine j_iconst (pc' := 36) (v := (-1)) hκ (by decide) dX10_cell_35 rfl ?_
          exact hR _ _ _ _ dX10_cell_36 h
    · replace h := h.2 c
      refine j_bipush (pc' := 20) (v := (-3)) hκ (by decide) dX10_cell_18 rfl ?_
      exact hR _ _ _ _ dX10_cell_20 h
  · replace h := h.2 c
    refine j_iconst (pc' := 8) (v := (-1)) hκ (by decide) dX10_cell_7 rfl ?_
    exact hR _ _ _ _ dX10_cell_8 h
theorem c_m_cell {g : Gx} (hg : Dg g) {X M : ST} {p1 : Int32} {p2 : Int32} {p3 : Int64} {post : Int32 → ST → Prop} (h : wp_m_cell M p1 p2 p3 post) (l : Launch) : Met l yX10_cell wq_X10_cell rm_m_cell (va_Pc [.ref (g.2.1 11), .int p1, .int p2, .long p3] (PU g X M)) (va_Qi post (fun Y t => va_P g.1 vwCl (ww g X Y) t.heap) (wA g)) 0 0 (wA g) :=
  met_mi hg (by decide) rfl [.ref (g.2.1 11), .int p1, .int p2, .long p3] rfl (Nat.le_of_ble_eq_true rfl) (fun κ hκ hR => lb_m_cell hκ hR h) l
theorem wm_13_15 : Cond.constantLong RX10 126 (9223372036854775807) ∈ wAll := inr_13 (List.mem_of_getElem? (i := 15) rfl)
abbrev rm_m_told : Room := { frames := 1, cells := 0, slots := 0, locals := 20 }
def wp_m_told (M : ST) (p1 : Int32) (p2 : Int32) (post : Int64 → ST → Prop) : Prop :=
  wp_m_isRow M p1 (fun r2 M1 => (r2 = 0 → (post 9223372036854775807 M1)) ∧ (¬ r2 = 0 → ((p2 < 0 → (post 9223372036854775807 M1)) ∧ (¬ p2 < 0 → (vp_in p1 4 ∧ ((p2 < (m_rowSize M1 p1.toNatClampNeg) → (vp_in ((50 * p1) + p2) 200 ∧ (post (m_cell M1 ((50 * p1) + p2).toNatClampNeg) M1))) ∧ (¬ p2 < (m_rowSize M1 p1.toNatClampNeg) → (post 9223372036854775807 M1))))))))
set_option maxHeartbeats 4000000 in
set_option maxRecDepth 100000 in
theorem lb_m_told {κ : Cx} {g : Gx} {X : ST} (hκ : CF κ g RX10 cX10_told wq_X10_told 3 rm_m_told) {post : Int64 → ST → Prop} (hR : RtmL κ g 3 cX10_told X post) {M : ST} {p1 : Int32} {p2 : Int32} (h : wp_m_told M p1 p2 post) : Jw κ g 3 X M [(0, .ref (g.2.1 11)), (1, .int p1), (2, .int p2)] 0 [] := by
  unfold wp_m_told at h
  refine j_iload_n (pc' := 1) hκ 1 rfl rfl dX10_told_0 rfl ?_
  refine jm_callSi (pc' := 4) hκ (c_m_isRow (dg hκ) h) rfl rfl rfl (gS wm_12_7 wm_12_8 wm_1_5 wm_12_9) hqS_X10_isRow ⟨Nat.le_of_ble_eq_true rfl, Nat.le_of_ble_eq_true rfl⟩ rfl rfl (Nat.le_of_ble_eq_true rfl) dX10_told_1 rfl (fun r2 M1 h => ?_)
  refine j_if_eq (tgt := 21) (pc' := 7) hκ dX10_told_4 (by decide) rfl (fun c => ?_) (fun c => ?_)
  · replace h := h.1 c
    refine j_ldc2_w (pc' := 24) hκ (mc wm_13_15) dX10_told_21 rfl ?_
    refine j_goto (pc' := 38) hκ (by decide) dX10_told_24 ?_
    exact hR _ _ _ _ dX10_told_38 h
  · replace h := h.2 c
    refine j_iload_n (pc' := 8) hκ 2 rfl rfl dX10_told_7 rfl ?_
    refine j_if_lt (tgt := 21) (pc' := 11) hκ dX10_told_8 (by decide) rfl (fun c => ?_) (fun c => ?_)
    · replace h := h.1 c
      refine j_ldc2_w (pc' := 24) hκ (mc wm_13_15) dX10_told_21 rfl ?_
      refine j_goto (pc' := 38) hκ (by decide) dX10_told_24 ?_
      exact hR _ _ _ _ dX10_told_38 h
    · replace h := h.2 c
      refine j_iload_n (pc' := 12) hκ 2 rfl rfl dX10_told_11 rfl ?_
      refine j_aload_n (pc' := 13) hκ 0 rfl rfl dX10_told_12 rfl ?_
      refine jg_11_6 (pc' := 16) hκ (mi inlX10) (fl_in hκ (mc wm_7_15)) dX10_told_13 rfl ?_
      refine j_iload_n (pc' := 17) hκ 1 rfl rfl dX10_told_16 rfl ?_
      refine jm_iald (pc' := 18) hκ (ah_52 g) h.1 dX10_told_17 rfl ?_
      replace h := h.2
      refine j_icmp_lt (tgt := 27) (pc' := 21) hκ dX10_told_18 (by decide) rfl (fun c => ?_) (fun c => ?_)
      · replace h := h.1 c
        refine j_aload_n (pc' := 28) hκ 0 rfl rfl dX10_told_27 rfl ?_
        refine jg_11_7 (pc' := 31) hκ (mi inlX10) (fl_in hκ (mc wm_7_16)) dX10_told_28 rfl ?_
        refine j_bipush (pc' := 33) (v := 50) hκ (by decide) dX10_told_31 rfl ?_
        refine j_iload_n (pc' := 34) hκ 1 rfl rfl dX10_told_33 rfl ?_
        refine j_imul (pc' := 35) hκ dX10_told_34 rfl ?_
        refine j_iload_n (pc' := 36) hκ 2 rfl rfl dX10_told_35 rfl ?_
        refine j_iadd (pc' := 37) hκ dX10_told_36 rfl ?_
        refine jm_lald (pc' := 38) hκ (ah_53 g) h.1 dX10_told_37 rfl ?_
        replace h := h.2
        exact hR _ _ _ _ dX10_told_38 h
      · replace h := h.2 c
        refine j_ldc2_w (pc' := 24) hκ (mc wm_13_15) dX10_told_21 rfl ?_
        refine j_goto (pc' := 38) hκ (by decide) dX10_told_24 ?_
        exact hR _ _ _ _ dX10_told_38 h
theorem c_m_told {g : Gx} (hg : Dg g) {X M : ST} {p1 : Int32} {p2 : Int32} {post : Int64 → ST → Prop} (h : wp_m_told M p1 p2 post) (l : Launch) : Met l yX10_told wq_X10_told rm_m_told (va_Pc [.ref (g.2.1 11), .int p1, .int p2] (PU g X M)) (va_Ql post (fun Y t => va_P g.1 vwCl (ww g X Y) t.heap) (wA g)) 0 0 (wA g) :=
  met_ml hg (by decide) rfl [.ref (g.2.1 11), .int p1, .int p2] rfl (Nat.le_of_ble_eq_true rfl) (fun κ hκ hR => lb_m_told hκ hR h) l
abbrev rm_m_lose : Room := { frames := 1, cells := 0, slots := 0, locals := 20 }
def wp_m_lose (M : ST) (p1 : Int32) (post : Int32 → ST → Prop) : Prop :=
  wp_m_isRow M p1 (fun r2 M1 => (¬ r2 = 0 → (vp_in p1 4 ∧ ((0 ≤ (m_rowSize M1 p1.toNatClampNeg) → (vp_in p1 4 ∧ (∀ M3 : ST, M3 = ms_rowSize M1 (upd (m_rowSize M1) p1.toNatClampNeg (-1)) → post 1 M3))) ∧ (¬ 0 ≤ (m_rowSize M1 p1.toNatClampNeg) → (post (-3) M1))))) ∧ (r2 = 0 → (post (-1) M1)))
set_option maxHeartbeats 4000000 in
set_option maxRecDepth 100000 in
theorem lb_m_lose {κ : Cx} {g : Gx} {X : ST} (hκ : CF κ g RX10 cX10_lose wq_X10_lose 2 rm_m_lose) {post : Int32 → ST → Prop} (hR : RtmI κ g 2 cX10_lose X post) {M : ST} {p1 : Int32} (h : wp_m_lose M p1 post) : Jw κ g 2 X M [(0, .ref (g.2.1 11)), (1, .int p1)] 0 [] := by
  unfold wp_m_lose at h
  refine j_iload_n (pc' := 1) hκ 1 rfl rfl dX10_lose_0 rfl ?_
  refine jm_callSi (pc' := 4) hκ (c_m_isRow (dg hκ) h) rfl rfl rfl (gS wm_12_7 wm_12_8 wm_1_5 wm_12_9) hqS_X10_isRow ⟨Nat.le_of_ble_eq_true rfl, Nat.le_of_ble_eq_true rfl⟩ rfl rfl (Nat.le_of_ble_eq_true rfl) dX10_lose_1 rfl (fun r2 M1 h => ?_)
  refine j_if_ne (tgt := 9) (pc' := 7) hκ dX10_lose_4 (by decide) rfl (fun c => ?_) (fun c => ?_)
  · replace h := h.1 c
    refine j_aload_n (pc' := 10) hκ 0 rfl rfl dX10_lose_9 rfl ?_
    refine jg_11_6 (pc' := 13) hκ (mi inlX10) (fl_in hκ (mc wm_7_15)) dX10_lose_10 rfl ?_
    refine j_iload_n (pc' := 14) hκ 1 rfl rfl dX10_lose_13 rfl ?_
    refine jm_iald (pc' := 15) hκ (ah_52 g) h.1 dX10_lose_14 rfl ?_
    replace h := h.2
    refine j_if_ge (tgt := 21) (pc' := 18) hκ dX10_lose_15 (by decide) rfl (fun c => ?_) (fun c => ?_)
    · replace h := h.1 c
      refine j_aload_n (pc' := 22) hκ 0 rfl rfl dX10_lose_21 rfl ?_
      refine jg_11_6 (pc' := 25) hκ (mi inlX10) (fl_in hκ (mc wm_7_15)) dX10_lose_22 rfl ?_
      refine j_iload_n (pc' := 26) hκ 1 rfl rfl dX10_lose_25 rfl ?_
      refine j_iconst (pc' := 27) (v := (-1)) hκ (by decide) dX10_lose_26 rfl ?_
      refine jm_iast (pc' := 28) hκ (ah_52 g) h.1 dX10_lose_27 rfl ?_
      replace h := h.2
      refine j_nmM (fun M3 eM3 => ?_)
      replace h := h M3 eM3
      refine j_iconst (pc' := 29) (v := 1) hκ (by decide) dX10_lose_28 rfl ?_
      exact hR _ _ _ _ dX10_lose_29 h
    · replace h := h.2 c
      refine j_bipush (pc' := 20) (v := (-3)) hκ (by decide) dX10_lose_18 rfl ?_
      exact hR _ _ _ _ dX10_lose_20 h
  · replace h := h.2 c
    refine j_iconst (pc' := 8) (v := (-1)) hκ (by decide) dX10_lose_7 rfl ?_
    exact hR _ _ _ _ dX10_lose_8 h
theorem c_m_lose {g : Gx} (hg : Dg g) {X M : ST} {p1 : Int32} {post : Int32 → ST → Prop} (h : wp_m_lose M p1 post) (l : Launch) : Met l yX10_lose wq_X10_lose rm_m_lose (va_Pc [.ref (g.2.1 11), .int p1] (PU g X M)) (va_Qi post (fun Y t => va_P g.1 vwCl (ww g X Y) t.heap) (wA g)) 0 0 (wA g) :=
  met_mi hg (by decide) rfl [.ref (g.2.1 11), .int p1] rfl (Nat.le_of_ble_eq_true rfl) (fun κ hκ hR => lb_m_lose hκ hR h) l
theorem wm_14_16 : Cond.constantLong RX10 128 (1000) ∈ wAll := inr_14 (List.mem_of_getElem? (i := 16) rfl)
abbrev rm_m_lay : Room := { frames := 1, cells := 0, slots := 0, locals := 23 }
def wp_m_lay_147 (K93 : ST → Int32 → Int32 → Int32 → Int32 → Int32 → Prop) (post : Int32 → ST → Prop) (M : ST) (l1 : Int32) (l2 : Int32) (l3 : Int32) (l4 : Int32) (l5 : Int32) : Prop :=
  vp_in (l4 + l5) 100 ∧ (∀ M4 : ST, M4 = ms_isOpen M (upd (m_isOpen M) (l4 + l5).toNatClampNeg (vp_nar .boolean 0)) → K93 M4 l1 l2 l3 l4 (l5 + 1))
set_option maxHeartbeats 4000000 in
set_option maxRecDepth 100000 in
theorem lb_m_lay_147 {κ : Cx} {g : Gx} {X : ST} (hκ : CF κ g RX10 cX10_lay wq_X10_lay 8 rm_m_lay) {post : Int32 → ST → Prop} (hR : RtmI κ g 8 cX10_lay X post) {K93 : ST → Int32 → Int32 → Int32 → Int32 → Int32 → Prop} (hK93 : ∀ (M : ST) (l1 : Int32) (l2 : Int32) (l3 : Int32) (l4 : Int32) (l5 : Int32), K93 M l1 l2 l3 l4 l5 → Jw κ g 8 X M [(0, .ref (g.2.1 11)), (1, .int l1), (2, .int l2), (3, .int l3), (4, .int l4), (5, .int l5)] 93 []) : ∀ (M : ST) (l1 : Int32) (l2 : Int32) (l3 : Int32) (l4 : Int32) (l5 : Int32), wp_m_lay_147 K93 post M l1 l2 l3 l4 l5 → Jw κ g 8 X M [(0, .ref (g.2.1 11)), (1, .int l1), (2, .int l2), (3, .int l3), (4, .int l4), (5, .int l5)] 147 [] := by
  intro M l1 l2 l3 l4 l5  h
  unfold wp_m_lay_147 at h
  refine j_aload_n (pc' := 148) hκ 0 rfl rfl dX10_lay_147 rfl ?_
  refine jg_11_4 (pc' := 151) hκ (mi inlX10) (fl_in hκ (mc wm_7_13)) dX10_lay_148 rfl ?_
  refine j_iload (pc' := 153) hκ 4 rfl dX10_lay_151 rfl ?_
  refine j_iload (pc' := 155) hκ 5 rfl dX10_lay_153 rfl ?_
  refine j_iadd (pc' := 156) hκ dX10_lay_155 rfl ?_
  refine j_iconst (pc' := 157) (v := 0) hκ (by decide) dX10_lay_156 rfl ?_
  refine jm_zast (pc' := 158) hκ (ah_50 g) h.1 dX10_lay_157 rfl ?_
  replace h := h.2
  refine j_nmM (fun M4 eM4 => ?_)
  replace h := h M4 eM4
  refine j_iinc (pc' := 161) (v := l5 + 1) (lv' := [(5, .int (l5 + 1)), (0, .ref (g.2.1 11)), (1, .int l1), (2, .int l2), (3, .int l3), (4, .int l4)]) hκ 5 rfl rfl (Nat.le_of_ble_eq_true rfl) rfl dX10_lay_158 rfl ?_
  refine j_goto (pc' := 93) hκ (by decide) dX10_lay_161 ?_
  refine j_sub [1, 2, 3, 4, 5, 0] rfl ?_
  exact hK93 _ _ _ _ _ _  h
def wp_m_lay_93_s (K164 : ST → Prop) (post : Int32 → ST → Prop) (rec : ST → Int32 → Int32 → Int32 → Int32 → Int32 → Prop) (M : ST) (l1 : Int32) (l2 : Int32) (l3 : Int32) (l4 : Int32) (l5 : Int32) : Prop :=
  (l3 ≤ l5 → (K164 M)) ∧ (¬ l3 ≤ l5 → (vp_in (((50 * l1) + l2) + l5) 200 ∧ (∀ v3 : Int64, v3 = m_cell M (((50 * l1) + l2) + l5).toNatClampNeg → (v3 < 1 → (wp_m_lay_147 rec post M l1 l2 l3 l4 l5)) ∧ (¬ v3 < 1 → ((1000 < v3 → (wp_m_lay_147 rec post M l1 l2 l3 l4 l5)) ∧ (¬ 1000 < v3 → (vp_in (l4 + l5) 100 ∧ (∀ M5 : ST, M5 = ms_length M (upd (m_length M) (l4 + l5).toNatClampNeg (v3.toInt32)) → rec M5 l1 l2 l3 l4 (l5 + 1)))))))))
def wp_m_lay_93 (K164 : ST → Prop) (post : Int32 → ST → Prop) : Nat → ST → Int32 → Int32 → Int32 → Int32 → Int32 → Prop
  | 0 => fun _ _ _ _ _ _ => False
  | n + 1 => wp_m_lay_93_s K164 post (wp_m_lay_93 K164 post n)
set_option maxHeartbeats 4000000 in
set_option maxRecDepth 100000 in
theorem lb_m_lay_93 {κ : Cx} {g : Gx} {X : ST} (hκ : CF κ g RX10 cX10_lay wq_X10_lay 8 rm_m_lay) {post : Int32 → ST → Prop} (hR : RtmI κ g 8 cX10_lay X post) {K164 : ST → Prop} (hK164 : ∀ (M : ST), K164 M → Jw κ g 8 X M [(0, .ref (g.2.1 11))] 164 []) : ∀ (n : Nat) (M : ST) (l1 : Int32) (l2 : Int32) (l3 : Int32) (l4 : Int32) (l5 : Int32), wp_m_lay_93 K164 post n M l1 l2 l3 l4 l5 → Jw κ g 8 X M [(0, .ref (g.2.1 11)), (1, .int l1), (2, .int l2), (3, .int l3), (4, .int l4), (5, .int l5)] 93 [] := by
  intro n
  induction n with
  | zero =>
    intro M l1 l2 l3 l4 l5  h
    exact h.elim
  | succ n ih =>
    intro M l1 l2 l3 l4 l5  h
    have h : wp_m_lay_93_s K164 post (wp_m_lay_93 K164 post n) M l1 l2 l3 l4 l5 := h
    unfold wp_m_lay_93_s at h
    refine j_iload (pc' := 95) hκ 5 rfl dX10_lay_93 rfl ?_
    refine j_iload_n (pc' := 96) hκ 3 rfl rfl dX10_lay_95 rfl ?_
    refine j_icmp_ge (tgt := 164) (pc' := 99) hκ dX10_lay_96 (by decide) rfl (fun c => ?_) (fun c => ?_)
    · replace h := h.1 c
      refine j_sub [0] rfl ?_
      exact hK164 _  h
    · replace h := h.2 c
      refine j_aload_n (pc' := 100) hκ 0 rfl rfl dX10_lay_99 rfl ?_
      refine jg_11_7 (pc' := 103) hκ (mi inlX10) (fl_in hκ (mc wm_7_16)) dX10_lay_100 rfl ?_
      refine j_bipush (pc' := 105) (v := 50) hκ (by decide) dX10_lay_103 rfl ?_
      refine j_iload_n (pc' := 106) hκ 1 rfl rfl dX10_lay_105 rfl ?_
      refine j_imul (pc' := 107) hκ dX10_lay_106 rfl ?_
      refine j_iload_n (pc' := 108) hκ 2 rfl rfl dX10_lay_107 rfl ?_
      refine j_iadd (pc' := 109) hκ dX10_lay_108 rfl ?_
      refine j_iload (pc' := 111) hκ 5 rfl dX10_lay_109 rfl ?_
      refine j_iadd (pc' := 112) hκ dX10_lay_111 rfl ?_
      refine jm_lald (pc' := 113) hκ (ah_53 g) h.1 dX10_lay_112 rfl ?_
      replace h := h.2
      refine j_topl (fun v3 ev3 => ?_)
      replace h := h v3 ev3
      refine j_lstore (pc' := 115) (lv' := [(6, .long v3), (0, .ref (g.2.1 11)), (1, .int l1), (2, .int l2), (3, .int l3), (4, .int l4), (5, .int l5)]) hκ (Nat.le_of_ble_eq_true rfl) rfl dX10_lay_113 rfl ?_
      refine j_lload (pc' := 117) hκ 0 rfl dX10_lay_115 rfl ?_
      refine j_lconst (pc' := 118) (v := 1) hκ (by decide) dX10_lay_117 rfl ?_
      refine j_lc_lt (tgt := 147) (pc1 := 119) (pc' := 122) hκ dX10_lay_118 rfl dX10_lay_119 (by decide) rfl (fun c => ?_) (fun c => ?_)
      · replace h := h.1 c
        refine j_sub [1, 2, 3, 4, 5, 6] rfl ?_
        refine lb_m_lay_147 hκ hR ih _ _ _ _ _ _  h
      · replace h := h.2 c
        refine j_lload (pc' := 124) hκ 0 rfl dX10_lay_122 rfl ?_
        refine j_ldc2_w (pc' := 127) hκ (mc wm_14_16) dX10_lay_124 rfl ?_
        refine j_lc_gt (tgt := 147) (pc1 := 128) (pc' := 131) hκ dX10_lay_127 rfl dX10_lay_128 (by decide) rfl (fun c => ?_) (fun c => ?_)
        · replace h := h.1 c
          refine j_sub [1, 2, 3, 4, 5, 6] rfl ?_
          refine lb_m_lay_147 hκ hR ih _ _ _ _ _ _  h
        · replace h := h.2 c
          refine j_aload_n (pc' := 132) hκ 1 rfl rfl dX10_lay_131 rfl ?_
          refine jg_11_3 (pc' := 135) hκ (mi inlX10) (fl_in hκ (mc wm_7_12)) dX10_lay_132 rfl ?_
          refine j_iload (pc' := 137) hκ 5 rfl dX10_lay_135 rfl ?_
          refine j_iload (pc' := 139) hκ 6 rfl dX10_lay_137 rfl ?_
          refine j_iadd (pc' := 140) hκ dX10_lay_139 rfl ?_
          refine j_lload (pc' := 142) hκ 0 rfl dX10_lay_140 rfl ?_
          refine j_l2i (pc' := 143) hκ dX10_lay_142 rfl ?_
          refine jm_iast (pc' := 144) hκ (ah_49 g) h.1 dX10_lay_143 rfl ?_
          replace h := h.2
          refine j_nmM (fun M5 eM5 => ?_)
          replace h := h M5 eM5
          refine j_goto (pc' := 158) hκ (by decide) dX10_lay_144 ?_
          refine j_iinc (pc' := 161) (v := l5 + 1) (lv' := [(5, .int (l5 + 1)), (6, .long v3), (0, .ref (g.2.1 11)), (1, .int l1), (2, .int l2), (3, .int l3), (4, .int l4)]) hκ 6 rfl rfl (Nat.le_of_ble_eq_true rfl) rfl dX10_lay_158 rfl ?_
          refine j_goto (pc' := 93) hκ (by decide) dX10_lay_161 ?_
          refine j_sub [2, 3, 4, 5, 6, 0] rfl ?_
          exact ih _ _ _ _ _ _  h
def wp_m_lay (M : ST) (p1 : Int32) (p2 : Int32) (p3 : Int32) (p4 : Int32) (post : Int32 → ST → Prop) : Prop :=
  wp_m_isRow M p1 (fun r2 M1 => (¬ r2 = 0 → (vp_in p1 4 ∧ ((0 ≤ (m_rowSize M1 p1.toNatClampNeg) → (vp_in p1 4 ∧ (((m_rowKind M1 p1.toNatClampNeg) = 1 → ((p3 < 0 → (post (-1) M1)) ∧ (¬ p3 < 0 → ((p2 < 0 → (post (-1) M1)) ∧ (¬ p2 < 0 → (vp_in p1 4 ∧ (((m_rowSize M1 p1.toNatClampNeg) < p3 → (post (-1) M1)) ∧ (¬ (m_rowSize M1 p1.toNatClampNeg) < p3 → (vp_in p1 4 ∧ ((((m_rowSize M1 p1.toNatClampNeg) - p3) < p2 → (post (-1) M1)) ∧ (¬ ((m_rowSize M1 p1.toNatClampNeg) - p3) < p2 → ((p4 < 0 → (post (-1) M1)) ∧ (¬ p4 < 0 → (((m_lanes M1) < p3 → (post (-1) M1)) ∧ (¬ (m_lanes M1) < p3 → ((p4 ≤ ((m_lanes M1) - p3) → (∃ n, wp_m_lay_93 (fun M6 => ∀ M7 : ST, M7 = ms_told M6 0 → wp_m_work M7 (fun M8 => post 1 M8)) post n M1 p1 p2 p3 p4 0)) ∧ (¬ p4 ≤ ((m_lanes M1) - p3) → (post (-1) M1)))))))))))))))))) ∧ (¬ (m_rowKind M1 p1.toNatClampNeg) = 1 → (post (-5) M1))))) ∧ (¬ 0 ≤ (m_rowSize M1 p1.toNatClampNeg) → (post (-3) M1))))) ∧ (r2 = 0 → (post (-1) M1)))
set_option maxHeartbeats 4000000 in
set_option maxRecDepth 100000 in
theorem lb_m_lay {κ : Cx} {g : Gx} {X : ST} (hκ : CF κ g RX10 cX10_lay wq_X10_lay 8 rm_m_lay) {post : Int32 → ST → Prop} (hR : RtmI κ g 8 cX10_lay X post) {M : ST} {p1 : Int32} {p2 : Int32} {p3 : Int32} {p4 : Int32} (h : wp_m_lay M p1 p2 p3 p4 post) : Jw κ g 8 X M [(0, .ref (g.2.1 11)), (1, .int p1), (2, .int p2), (3, .int p3), (4, .int p4)] 0 [] := by
  unfold wp_m_lay at h
  refine j_iload_n (pc' := 1) hκ 1 rfl rfl dX10_lay_0 rfl ?_
  refine jm_callSi (pc' := 4) hκ (c_m_isRow (dg hκ) h) rfl rfl rfl (gS wm_12_7 wm_12_8 wm_1_5 wm_12_9) hqS_X10_isRow ⟨Nat.le_of_ble_eq_true rfl, Nat.le_of_ble_eq_true rfl⟩ rfl rfl (Nat.le_of_ble_eq_true rfl) dX10_lay_1 rfl (fun r2 M1 h => ?_)
  refine j_if_ne (tgt := 9) (pc' := 7) hκ dX10_lay_4 (by decide) rfl (fun c => ?_) (fun c => ?_)
  · replace h := h.1 c
    refine j_aload_n (pc' := 10) hκ 0 rfl rfl dX10_lay_9 rfl ?_
    refine jg_11_6 (pc' := 13) hκ (mi inlX10) (fl_in hκ (mc wm_7_15)) dX10_lay_10 rfl ?_
    refine j_iload_n (pc' := 14) hκ 1 rfl rfl dX10_lay_13 rfl ?_
    refine jm_iald (pc' := 15) hκ (ah_52 g) h.1 dX10_lay_14 rfl ?_
    replace h := h.2
    refine j_if_ge (tgt := 21) (pc' := 18) hκ dX10_lay_15 (by decide) rfl (fun c => ?_) (fun c => ?_)
    · replace h := h.1 c
      refine j_aload_n (pc' := 22) hκ 0 rfl rfl dX10_lay_21 rfl ?_
      refine jg_11_5 (pc' := 25) hκ (mi inlX10) (fl_in hκ (mc wm_7_14)) dX10_lay_22 rfl ?_
      refine j_iload_n (pc' := 26) hκ 1 rfl rfl dX10_lay_25 rfl ?_
      refine jm_iald (pc' := 27) hκ (ah_51 g) h.1 dX10_lay_26 rfl ?_
      replace h := h.2
      refine j_iconst (pc' := 28) (v := 1) hκ (by decide) dX10_lay_27 rfl ?_
      refine j_icmp_eq (tgt := 34) (pc' := 31) hκ dX10_lay_28 (by decide) rfl (fun c => ?_) (fun c => ?_)
      · replace h := h.1 c
        refine j_iload_n (pc' := 35) hκ 3 rfl rfl dX10_lay_34 rfl ?_
        refine j_if_lt (tgt := 88) (pc' := 38) hκ dX10_lay_35 (by decide) rfl (fun c => ?_) (fun c => ?_)
        · replace h := h.1 c
          refine j_iconst (pc' := 89) (v := (-1)) hκ (by decide) dX10_lay_88 rfl ?_
          exact hR _ _ _ _ dX10_lay_89 h
        · replace h := h.2 c
          refine j_iload_n (pc' := 39) hκ 2 rfl rfl dX10_lay_38 rfl ?_
          refine j_if_lt (tgt := 88) (pc' := 42) hκ dX10_lay_39 (by decide) rfl (fun c => ?_) (fun c => ?_)
          · replace h := h.1 c
            refine j_iconst (pc' := 89) (v := (-1)) hκ (by decide) dX10_lay_88 rfl ?_
            exact hR _ _ _ _ dX10_lay_89 h
          · replace h := h.2 c
            refine j_iload_n (pc' := 43) hκ 3 rfl rfl dX10_lay_42 rfl ?_
            refine j_aload_n (pc' := 44) hκ 0 rfl rfl dX10_lay_43 rfl ?_
            refine jg_11_6 (pc' := 47) hκ (mi inlX10) (fl_in hκ (mc wm_7_15)) dX10_lay_44 rfl ?_
            refine j_iload_n (pc' := 48) hκ 1 rfl rfl dX10_lay_47 rfl ?_
            refine jm_iald (pc' := 49) hκ (ah_52 g) h.1 dX10_lay_48 rfl ?_
            replace h := h.2
            refine j_icmp_gt (tgt := 88) (pc' := 52) hκ dX10_lay_49 (by decide) rfl (fun c => ?_) (fun c => ?_)
            · replace h := h.1 c
              refine j_iconst (pc' := 89) (v := (-1)) hκ (by decide) dX10_lay_88 rfl ?_
              exact hR _ _ _ _ dX10_lay_89 h
            · replace h := h.2 c
              refine j_iload_n (pc' := 53) hκ 2 rfl rfl dX10_lay_52 rfl ?_
              refine j_aload_n (pc' := 54) hκ 0 rfl rfl dX10_lay_53 rfl ?_
              refine jg_11_6 (pc' := 57) hκ (mi inlX10) (fl_in hκ (mc wm_7_15)) dX10_lay_54 rfl ?_
              refine j_iload_n (pc' := 58) hκ 1 rfl rfl dX10_lay_57 rfl ?_
              refine jm_iald (pc' := 59) hκ (ah_52 g) h.1 dX10_lay_58 rfl ?_
              replace h := h.2
              refine j_iload_n (pc' := 60) hκ 3 rfl rfl dX10_lay_59 rfl ?_
              refine j_isub (pc' := 61) hκ dX10_lay_60 rfl ?_
              refine j_icmp_gt (tgt := 88) (pc' := 64) hκ dX10_lay_61 (by decide) rfl (fun c => ?_) (fun c => ?_)
              · replace h := h.1 c
                refine j_iconst (pc' := 89) (v := (-1)) hκ (by decide) dX10_lay_88 rfl ?_
                exact hR _ _ _ _ dX10_lay_89 h
              · replace h := h.2 c
                refine j_iload (pc' := 66) hκ 4 rfl dX10_lay_64 rfl ?_
                refine j_if_lt (tgt := 88) (pc' := 69) hκ dX10_lay_66 (by decide) rfl (fun c => ?_) (fun c => ?_)
                · replace h := h.1 c
                  refine j_iconst (pc' := 89) (v := (-1)) hκ (by decide) dX10_lay_88 rfl ?_
                  exact hR _ _ _ _ dX10_lay_89 h
                · replace h := h.2 c
                  refine j_iload_n (pc' := 70) hκ 3 rfl rfl dX10_lay_69 rfl ?_
                  refine j_aload_n (pc' := 71) hκ 0 rfl rfl dX10_lay_70 rfl ?_
                  refine jg_11_0 (pc' := 74) hκ (mi inlX10) (fl_in hκ (mc wm_8_20)) dX10_lay_71 rfl ?_
                  refine j_icmp_gt (tgt := 88) (pc' := 77) hκ dX10_lay_74 (by decide) rfl (fun c => ?_) (fun c => ?_)
                  · replace h := h.1 c
                    refine j_iconst (pc' := 89) (v := (-1)) hκ (by decide) dX10_lay_88 rfl ?_
                    exact hR _ _ _ _ dX10_lay_89 h
                  · replace h := h.2 c
                    refine j_iload (pc' := 79) hκ 4 rfl dX10_lay_77 rfl ?_
                    refine j_aload_n (pc' := 80) hκ 0 rfl rfl dX10_lay_79 rfl ?_
                    refine jg_11_0 (pc' := 83) hκ (mi inlX10) (fl_in hκ (mc wm_8_20)) dX10_lay_80 rfl ?_
                    refine j_iload_n (pc' := 84) hκ 3 rfl rfl dX10_lay_83 rfl ?_
                    refine j_isub (pc' := 85) hκ dX10_lay_84 rfl ?_
                    refine j_icmp_le (tgt := 90) (pc' := 88) hκ dX10_lay_85 (by decide) rfl (fun c => ?_) (fun c => ?_)
                    · replace h := h.1 c
                      refine j_iconst (pc' := 91) (v := 0) hκ (by decide) dX10_lay_90 rfl ?_
                      refine j_istore (pc' := 93) (lv' := [(5, .int 0), (0, .ref (g.2.1 11)), (1, .int p1), (2, .int p2), (3, .int p3), (4, .int p4)]) hκ (Nat.le_of_ble_eq_true rfl) rfl dX10_lay_91 rfl ?_
                      obtain ⟨n, h⟩ := h
                      refine j_sub [1, 2, 3, 4, 5, 0] rfl ?_
                      refine lb_m_lay_93 hκ hR ?_ n _ _ _ _ _ _  h
                      intro M6  h
                      refine j_aload_n (pc' := 165) hκ 0 rfl rfl dX10_lay_164 rfl ?_
                      refine j_iconst (pc' := 166) (v := 0) hκ (by decide) dX10_lay_165 rfl ?_
                      refine jp_11_15 (pc' := 169) hκ (mi inlX10) (fl_in hκ (mc wm_10_8)) dX10_lay_166 rfl ?_
                      refine j_nmM (fun M7 eM7 => ?_)
                      replace h := h M7 eM7
                      refine j_aload_n (pc' := 170) hκ 0 rfl rfl dX10_lay_169 rfl ?_
                      refine jm_callVv (pc' := 173) hκ (c_m_work (dg hκ) h) rfl rfl rfl (gV wm_8_15 wm_8_16 wm_8_17 wm_1_5 wm_8_18) hqV_X10_work ⟨Nat.le_of_ble_eq_true rfl, Nat.le_of_ble_eq_true rfl⟩ (wg_11 g _ _) rfl rfl rfl (Nat.le_of_ble_eq_true rfl) dX10_lay_170 rfl (fun M8 h => ?_)
                      refine j_iconst (pc' := 174) (v := 1) hκ (by decide) dX10_lay_173 rfl ?_
                      exact hR _ _ _ _ dX10_lay_174 h
                    · replace h := h.2 c
                      refine j_iconst (pc' := 89) (v := (-1)) hκ (by decide) dX10_lay_88 rfl ?_
                      exact hR _ _ _ _ dX10_lay_89 h
      · replace h := h.2 c
        refine j_bipush (pc' := 33) (v := (-5)) hκ (by decide) dX10_lay_31 rfl ?_
        exact hR _ _ _ _ dX10_lay_33 h
    · replace h := h.2 c
      refine j_bipush (pc' := 20) (v := (-3)) hκ (by decide) dX10_lay_18 rfl ?_
      exact hR _ _ _ _ dX10_lay_20 h
  · replace h := h.2 c
    refine j_iconst (pc' := 8) (v := (-1)) hκ (by decide) dX10_lay_7 rfl ?_
    exact hR _ _ _ _ dX10_lay_8 h
theorem c_m_lay {g : Gx} (hg : Dg g) {X M : ST} {p1 : Int32} {p2 : Int32} {p3 : Int32} {p4 : Int32} {post : Int32 → ST → Prop} (h : wp_m_lay M p1 p2 p3 p4 post) (l : Launch) : Met l yX10_lay wq_X10_lay rm_m_lay (va_Pc [.ref (g.2.1 11), .int p1, .int p2, .int p3, .int p4] (PU g X M)) (va_Qi post (fun Y t => va_P g.1 vwCl (ww g X Y) t.heap) (wA g)) 0 0 (wA g) :=
  met_mi hg (by decide) rfl [.ref (g.2.1 11), .int p1, .int p2, .int p3, .int p4] rfl (Nat.le_of_ble_eq_true rfl) (fun κ hκ hR => lb_m_lay hκ hR h) l
abbrev rm_m_way : Room := { frames := 1, cells := 0, slots := 0, locals := 20 }
def wp_m_way (M : ST) (p1 : Int32) (p2 : Int32) (post : Int32 → ST → Prop) : Prop :=
  wp_m_isCrossing M p1 (fun r2 M1 => (r2 = 0 → (post (-1) M1)) ∧ (¬ r2 = 0 → (wp_m_isCrossing M1 p2 (fun r4 M3 => (¬ r4 = 0 → (vp_in ((40 * p1) + p2) 1600 ∧ (∀ v5 : Int32, v5 = m_ways M3 ((40 * p1) + p2).toNatClampNeg → (¬ v5 = 1000000000 → (post v5 M3)) ∧ (v5 = 1000000000 → (post (-10) M3))))) ∧ (r4 = 0 → (post (-1) M3))))))
set_option maxHeartbeats 4000000 in
set_option maxRecDepth 100000 in
theorem lb_m_way {κ : Cx} {g : Gx} {X : ST} (hκ : CF κ g RX10 cX10_way wq_X10_way 4 rm_m_way) {post : Int32 → ST → Prop} (hR : RtmI κ g 4 cX10_way X post) {M : ST} {p1 : Int32} {p2 : Int32} (h : wp_m_way M p1 p2 post) : Jw κ g 4 X M [(0, .ref (g.2.1 11)), (1, .int p1), (2, .int p2)] 0 [] := by
  unfold wp_m_way at h
  refine j_iload_n (pc' := 1) hκ 1 rfl rfl dX10_way_0 rfl ?_
  refine jm_callSi (pc' := 4) hκ (c_m_isCrossing (dg hκ) h) rfl rfl rfl (gS wm_10_9 wm_10_10 wm_1_5 wm_10_11) hqS_X10_isCrossing ⟨Nat.le_of_ble_eq_true rfl, Nat.le_of_ble_eq_true rfl⟩ rfl rfl (Nat.le_of_ble_eq_true rfl) dX10_way_1 rfl (fun r2 M1 h => ?_)
  refine j_if_eq (tgt := 14) (pc' := 7) hκ dX10_way_4 (by decide) rfl (fun c => ?_) (fun c => ?_)
  · replace h := h.1 c
    refine j_iconst (pc' := 15) (v := (-1)) hκ (by decide) dX10_way_14 rfl ?_
    exact hR _ _ _ _ dX10_way_15 h
  · replace h := h.2 c
    refine j_iload_n (pc' := 8) hκ 2 rfl rfl dX10_way_7 rfl ?_
    refine jm_callSi (pc' := 11) hκ (c_m_isCrossing (dg hκ) h) rfl rfl rfl (gS wm_10_9 wm_10_10 wm_1_5 wm_10_11) hqS_X10_isCrossing ⟨Nat.le_of_ble_eq_true rfl, Nat.le_of_ble_eq_true rfl⟩ rfl rfl (Nat.le_of_ble_eq_true rfl) dX10_way_8 rfl (fun r4 M3 h => ?_)
    refine j_if_ne (tgt := 16) (pc' := 14) hκ dX10_way_11 (by decide) rfl (fun c => ?_) (fun c => ?_)
    · replace h := h.1 c
      refine j_aload_n (pc' := 17) hκ 0 rfl rfl dX10_way_16 rfl ?_
      refine jg_11_8 (pc' := 20) hκ (mi inlX10) (fl_in hκ (mc wm_7_17)) dX10_way_17 rfl ?_
      refine j_bipush (pc' := 22) (v := 40) hκ (by decide) dX10_way_20 rfl ?_
      refine j_iload_n (pc' := 23) hκ 1 rfl rfl dX10_way_22 rfl ?_
      refine j_imul (pc' := 24) hκ dX10_way_23 rfl ?_
      refine j_iload_n (pc' := 25) hκ 2 rfl rfl dX10_way_24 rfl ?_
      refine j_iadd (pc' := 26) hκ dX10_way_25 rfl ?_
      refine jm_iald (pc' := 27) hκ (ah_54 g) h.1 dX10_way_26 rfl ?_
      replace h := h.2
      refine j_topi (fun v5 ev5 => ?_)
      replace h := h v5 ev5
      refine j_istore_n (pc' := 28) (lv' := [(3, .int v5), (0, .ref (g.2.1 11)), (1, .int p1), (2, .int p2)]) hκ (Nat.le_of_ble_eq_true rfl) rfl rfl dX10_way_27 rfl ?_
      refine j_iload_n (pc' := 29) hκ 0 rfl rfl dX10_way_28 rfl ?_
      refine j_ldc (pc' := 31) hκ (mc wm_8_19) dX10_way_29 rfl ?_
      refine j_icmp_ne (tgt := 39) (pc' := 34) hκ dX10_way_31 (by decide) rfl (fun c => ?_) (fun c => ?_)
      · replace h := h.1 c
        refine j_iload_n (pc' := 40) hκ 0 rfl rfl dX10_way_39 rfl ?_
        exact hR _ _ _ _ dX10_way_40 h
      · replace h := h.2 c
        refine j_bipush (pc' := 36) (v := (-10)) hκ (by decide) dX10_way_34 rfl ?_
        refine j_goto (pc' := 40) hκ (by decide) dX10_way_36 ?_
        exact hR _ _ _ _ dX10_way_40 h
    · replace h := h.2 c
      refine j_iconst (pc' := 15) (v := (-1)) hκ (by decide) dX10_way_14 rfl ?_
      exact hR _ _ _ _ dX10_way_15 h
theorem c_m_way {g : Gx} (hg : Dg g) {X M : ST} {p1 : Int32} {p2 : Int32} {post : Int32 → ST → Prop} (h : wp_m_way M p1 p2 post) (l : Launch) : Met l yX10_way wq_X10_way rm_m_way (va_Pc [.ref (g.2.1 11), .int p1, .int p2] (PU g X M)) (va_Qi post (fun Y t => va_P g.1 vwCl (ww g X Y) t.heap) (wA g)) 0 0 (wA g) :=
  met_mi hg (by decide) rfl [.ref (g.2.1 11), .int p1, .int p2] rfl (Nat.le_of_ble_eq_true rfl) (fun κ hκ hR => lb_m_way hκ hR h) l
abbrev rm_m_next : Room := { frames := 0, cells := 0, slots := 0, locals := 0 }
def wp_m_next_69 (K11 : ST → Int32 → Int32 → Int32 → Int32 → Prop) (K119 : ST → Int32 → Prop) (post : Int32 → ST → Prop) (M : ST) (l1 : Int32) (l2 : Int32) (l3 : Int32) (l4 : Int32) (s0 : Int32) : Prop :=
  vp_in l4 100 ∧ (((m_isOpen M l4.toNatClampNeg) = 0 → (K11 M l1 l2 l3 (l4 + 1))) ∧ (¬ (m_isOpen M l4.toNatClampNeg) = 0 → ((s0 = 0 → (K11 M l1 l2 l3 (l4 + 1))) ∧ (¬ s0 = 0 → (vp_in l4 100 ∧ (vp_in ((40 * l3) + l2) 1600 ∧ (vp_in ((40 * l1) + l2) 1600 ∧ ((¬ ((m_length M l4.toNatClampNeg) + (m_ways M ((40 * l3) + l2).toNatClampNeg)) = (m_ways M ((40 * l1) + l2).toNatClampNeg) → (K11 M l1 l2 l3 (l4 + 1))) ∧ (((m_length M l4.toNatClampNeg) + (m_ways M ((40 * l3) + l2).toNatClampNeg)) = (m_ways M ((40 * l1) + l2).toNatClampNeg) → (K119 M l3))))))))))
set_option maxHeartbeats 4000000 in
set_option maxRecDepth 100000 in
theorem lb_m_next_69 {κ : Cx} {g : Gx} {X : ST} (hκ : CF κ g RX10 cX10_next wq_X10_next 6 rm_m_next) {post : Int32 → ST → Prop} (hR : RtmI κ g 6 cX10_next X post) {K11 : ST → Int32 → Int32 → Int32 → Int32 → Prop} {K119 : ST → Int32 → Prop} (hK11 : ∀ (M : ST) (l1 : Int32) (l2 : Int32) (l3 : Int32) (l4 : Int32), K11 M l1 l2 l3 l4 → Jw κ g 6 X M [(0, .ref (g.2.1 11)), (1, .int l1), (2, .int l2), (3, .int l3), (4, .int l4)] 11 []) (hK119 : ∀ (M : ST) (l3 : Int32), K119 M l3 → Jw κ g 6 X M [(3, .int l3)] 119 []) : ∀ (M : ST) (l1 : Int32) (l2 : Int32) (l3 : Int32) (l4 : Int32) (s0 : Int32), wp_m_next_69 K11 K119 post M l1 l2 l3 l4 s0 → Jw κ g 6 X M [(0, .ref (g.2.1 11)), (1, .int l1), (2, .int l2), (3, .int l3), (4, .int l4)] 69 [.int s0] := by
  intro M l1 l2 l3 l4 s0  h
  unfold wp_m_next_69 at h
  refine j_istore (pc' := 71) (lv' := [(5, .int s0), (0, .ref (g.2.1 11)), (1, .int l1), (2, .int l2), (3, .int l3), (4, .int l4)]) hκ (Nat.le_of_ble_eq_true rfl) rfl dX10_next_69 rfl ?_
  refine j_aload_n (pc' := 72) hκ 1 rfl rfl dX10_next_71 rfl ?_
  refine jg_11_4 (pc' := 75) hκ (mi inlX10) (fl_in hκ (mc wm_7_13)) dX10_next_72 rfl ?_
  refine j_iload (pc' := 77) hκ 5 rfl dX10_next_75 rfl ?_
  refine jm_zald (pc' := 78) hκ (ah_50 g) h.1 dX10_next_77 rfl ?_
  replace h := h.2
  refine j_if_eq (tgt := 121) (pc' := 81) hκ dX10_next_78 (by decide) rfl (fun c => ?_) (fun c => ?_)
  · replace h := h.1 c
    refine j_iinc (pc' := 124) (v := l4 + 1) (lv' := [(4, .int (l4 + 1)), (5, .int s0), (0, .ref (g.2.1 11)), (1, .int l1), (2, .int l2), (3, .int l3)]) hκ 5 rfl rfl (Nat.le_of_ble_eq_true rfl) rfl dX10_next_121 rfl ?_
    refine j_goto (pc' := 11) hκ (by decide) dX10_next_124 ?_
    refine j_sub [2, 3, 4, 5, 0] rfl ?_
    exact hK11 _ _ _ _ _  h
  · replace h := h.2 c
    refine j_iload (pc' := 83) hκ 0 rfl dX10_next_81 rfl ?_
    refine j_if_eq (tgt := 121) (pc' := 86) hκ dX10_next_83 (by decide) rfl (fun c => ?_) (fun c => ?_)
    · replace h := h.1 c
      refine j_iinc (pc' := 124) (v := l4 + 1) (lv' := [(4, .int (l4 + 1)), (5, .int s0), (0, .ref (g.2.1 11)), (1, .int l1), (2, .int l2), (3, .int l3)]) hκ 5 rfl rfl (Nat.le_of_ble_eq_true rfl) rfl dX10_next_121 rfl ?_
      refine j_goto (pc' := 11) hκ (by decide) dX10_next_124 ?_
      refine j_sub [2, 3, 4, 5, 0] rfl ?_
      exact hK11 _ _ _ _ _  h
    · replace h := h.2 c
      refine j_aload_n (pc' := 87) hκ 1 rfl rfl dX10_next_86 rfl ?_
      refine jg_11_3 (pc' := 90) hκ (mi inlX10) (fl_in hκ (mc wm_7_12)) dX10_next_87 rfl ?_
      refine j_iload (pc' := 92) hκ 5 rfl dX10_next_90 rfl ?_
      refine jm_iald (pc' := 93) hκ (ah_49 g) h.1 dX10_next_92 rfl ?_
      replace h := h.2
      refine j_aload_n (pc' := 94) hκ 1 rfl rfl dX10_next_93 rfl ?_
      refine jg_11_8 (pc' := 97) hκ (mi inlX10) (fl_in hκ (mc wm_7_17)) dX10_next_94 rfl ?_
      refine j_bipush (pc' := 99) (v := 40) hκ (by decide) dX10_next_97 rfl ?_
      refine j_iload_n (pc' := 100) hκ 4 rfl rfl dX10_next_99 rfl ?_
      refine j_imul (pc' := 101) hκ dX10_next_100 rfl ?_
      refine j_iload_n (pc' := 102) hκ 3 rfl rfl dX10_next_101 rfl ?_
      refine j_iadd (pc' := 103) hκ dX10_next_102 rfl ?_
      refine jm_iald (pc' := 104) hκ (ah_54 g) h.1 dX10_next_103 rfl ?_
      replace h := h.2
      refine j_iadd (pc' := 105) hκ dX10_next_104 rfl ?_
      refine j_aload_n (pc' := 106) hκ 1 rfl rfl dX10_next_105 rfl ?_
      refine jg_11_8 (pc' := 109) hκ (mi inlX10) (fl_in hκ (mc wm_7_17)) dX10_next_106 rfl ?_
      refine j_bipush (pc' := 111) (v := 40) hκ (by decide) dX10_next_109 rfl ?_
      refine j_iload_n (pc' := 112) hκ 2 rfl rfl dX10_next_111 rfl ?_
      refine j_imul (pc' := 113) hκ dX10_next_112 rfl ?_
      refine j_iload_n (pc' := 114) hκ 3 rfl rfl dX10_next_113 rfl ?_
      refine j_iadd (pc' := 115) hκ dX10_next_114 rfl ?_
      refine jm_iald (pc' := 116) hκ (ah_54 g) h.1 dX10_next_115 rfl ?_
      replace h := h.2
      refine j_icmp_ne (tgt := 121) (pc' := 119) hκ dX10_next_116 (by decide) rfl (fun c => ?_) (fun c => ?_)
      · replace h := h.1 c
        refine j_iinc (pc' := 124) (v := l4 + 1) (lv' := [(4, .int (l4 + 1)), (5, .int s0), (0, .ref (g.2.1 11)), (1, .int l1), (2, .int l2), (3, .int l3)]) hκ 5 rfl rfl (Nat.le_of_ble_eq_true rfl) rfl dX10_next_121 rfl ?_
        refine j_goto (pc' := 11) hκ (by decide) dX10_next_124 ?_
        refine j_sub [2, 3, 4, 5, 0] rfl ?_
        exact hK11 _ _ _ _ _  h
      · replace h := h.2 c
        refine j_sub [4] rfl ?_
        exact hK119 _ _  h
def wp_m_next_68 (K11 : ST → Int32 → Int32 → Int32 → Int32 → Prop) (K119 : ST → Int32 → Prop) (post : Int32 → ST → Prop) (M : ST) (l1 : Int32) (l2 : Int32) (l3 : Int32) (l4 : Int32) : Prop :=
  wp_m_next_69 K11 K119 post M l1 l2 l3 l4 0
set_option maxHeartbeats 4000000 in
set_option maxRecDepth 100000 in
theorem lb_m_next_68 {κ : Cx} {g : Gx} {X : ST} (hκ : CF κ g RX10 cX10_next wq_X10_next 6 rm_m_next) {post : Int32 → ST → Prop} (hR : RtmI κ g 6 cX10_next X post) {K11 : ST → Int32 → Int32 → Int32 → Int32 → Prop} {K119 : ST → Int32 → Prop} (hK11 : ∀ (M : ST) (l1 : Int32) (l2 : Int32) (l3 : Int32) (l4 : Int32), K11 M l1 l2 l3 l4 → Jw κ g 6 X M [(0, .ref (g.2.1 11)), (1, .int l1), (2, .int l2), (3, .int l3), (4, .int l4)] 11 []) (hK119 : ∀ (M : ST) (l3 : Int32), K119 M l3 → Jw κ g 6 X M [(3, .int l3)] 119 []) : ∀ (M : ST) (l1 : Int32) (l2 : Int32) (l3 : Int32) (l4 : Int32), wp_m_next_68 K11 K119 post M l1 l2 l3 l4 → Jw κ g 6 X M [(0, .ref (g.2.1 11)), (1, .int l1), (2, .int l2), (3, .int l3), (4, .int l4)] 68 [] := by
  intro M l1 l2 l3 l4  h
  unfold wp_m_next_68 at h
  refine j_iconst (pc' := 69) (v := 0) hκ (by decide) dX10_next_68 rfl ?_
  refine lb_m_next_69 hκ hR hK11 hK119 _ _ _ _ _ _  h
def wp_m_next_64 (K11 : ST → Int32 → Int32 → Int32 → Int32 → Prop) (K119 : ST → Int32 → Prop) (post : Int32 → ST → Prop) (M : ST) (l1 : Int32) (l2 : Int32) (l3 : Int32) (l4 : Int32) : Prop :=
  wp_m_next_69 K11 K119 post M l1 l2 l3 l4 1
set_option maxHeartbeats 4000000 in
set_option maxRecDepth 100000 in
theorem lb_m_next_64 {κ : Cx} {g : Gx} {X : ST} (hκ : CF κ g RX10 cX10_next wq_X10_next 6 rm_m_next) {post : Int32 → ST → Prop} (hR : RtmI κ g 6 cX10_next X post) {K11 : ST → Int32 → Int32 → Int32 → Int32 → Prop} {K119 : ST → Int32 → Prop} (hK11 : ∀ (M : ST) (l1 : Int32) (l2 : Int32) (l3 : Int32) (l4 : Int32), K11 M l1 l2 l3 l4 → Jw κ g 6 X M [(0, .ref (g.2.1 11)), (1, .int l1), (2, .int l2), (3, .int l3), (4, .int l4)] 11 []) (hK119 : ∀ (M : ST) (l3 : Int32), K119 M l3 → Jw κ g 6 X M [(3, .int l3)] 119 []) : ∀ (M : ST) (l1 : Int32) (l2 : Int32) (l3 : Int32) (l4 : Int32), wp_m_next_64 K11 K119 post M l1 l2 l3 l4 → Jw κ g 6 X M [(0, .ref (g.2.1 11)), (1, .int l1), (2, .int l2), (3, .int l3), (4, .int l4)] 64 [] := by
  intro M l1 l2 l3 l4  h
  unfold wp_m_next_64 at h
  refine j_iconst (pc' := 65) (v := 1) hκ (by decide) dX10_next_64 rfl ?_
  refine j_goto (pc' := 69) hκ (by decide) dX10_next_65 ?_
  refine lb_m_next_69 hκ hR hK11 hK119 _ _ _ _ _ _  h
def wp_m_next_42 (K11 : ST → Int32 → Int32 → Int32 → Int32 → Prop) (K119 : ST → Int32 → Prop) (post : Int32 → ST → Prop) (M : ST) (l1 : Int32) (l2 : Int32) (l3 : Int32) (l4 : Int32) : Prop :=
  vp_in l4 100 ∧ ((¬ (m_from M l4.toNatClampNeg) = l3 → (wp_m_next_68 K11 K119 post M l1 l2 l3 l4)) ∧ ((m_from M l4.toNatClampNeg) = l3 → (vp_in l4 100 ∧ ((¬ (m_to M l4.toNatClampNeg) = l1 → (wp_m_next_68 K11 K119 post M l1 l2 l3 l4)) ∧ ((m_to M l4.toNatClampNeg) = l1 → (wp_m_next_64 K11 K119 post M l1 l2 l3 l4))))))
set_option maxHeartbeats 4000000 in
set_option maxRecDepth 100000 in
theorem lb_m_next_42 {κ : Cx} {g : Gx} {X : ST} (hκ : CF κ g RX10 cX10_next wq_X10_next 6 rm_m_next) {post : Int32 → ST → Prop} (hR : RtmI κ g 6 cX10_next X post) {K11 : ST → Int32 → Int32 → Int32 → Int32 → Prop} {K119 : ST → Int32 → Prop} (hK11 : ∀ (M : ST) (l1 : Int32) (l2 : Int32) (l3 : Int32) (l4 : Int32), K11 M l1 l2 l3 l4 → Jw κ g 6 X M [(0, .ref (g.2.1 11)), (1, .int l1), (2, .int l2), (3, .int l3), (4, .int l4)] 11 []) (hK119 : ∀ (M : ST) (l3 : Int32), K119 M l3 → Jw κ g 6 X M [(3, .int l3)] 119 []) : ∀ (M : ST) (l1 : Int32) (l2 : Int32) (l3 : Int32) (l4 : Int32), wp_m_next_42 K11 K119 post M l1 l2 l3 l4 → Jw κ g 6 X M [(0, .ref (g.2.1 11)), (1, .int l1), (2, .int l2), (3, .int l3), (4, .int l4)] 42 [] := by
  intro M l1 l2 l3 l4  h
  unfold wp_m_next_42 at h
  refine j_aload_n (pc' := 43) hκ 0 rfl rfl dX10_next_42 rfl ?_
  refine jg_11_1 (pc' := 46) hκ (mi inlX10) (fl_in hκ (mc wm_7_10)) dX10_next_43 rfl ?_
  refine j_iload (pc' := 48) hκ 4 rfl dX10_next_46 rfl ?_
  refine jm_iald (pc' := 49) hκ (ah_47 g) h.1 dX10_next_48 rfl ?_
  replace h := h.2
  refine j_iload_n (pc' := 50) hκ 3 rfl rfl dX10_next_49 rfl ?_
  refine j_icmp_ne (tgt := 68) (pc' := 53) hκ dX10_next_50 (by decide) rfl (fun c => ?_) (fun c => ?_)
  · replace h := h.1 c
    refine lb_m_next_68 hκ hR hK11 hK119 _ _ _ _ _  h
  · replace h := h.2 c
    refine j_aload_n (pc' := 54) hκ 0 rfl rfl dX10_next_53 rfl ?_
    refine jg_11_2 (pc' := 57) hκ (mi inlX10) (fl_in hκ (mc wm_7_11)) dX10_next_54 rfl ?_
    refine j_iload (pc' := 59) hκ 4 rfl dX10_next_57 rfl ?_
    refine jm_iald (pc' := 60) hκ (ah_48 g) h.1 dX10_next_59 rfl ?_
    replace h := h.2
    refine j_iload_n (pc' := 61) hκ 1 rfl rfl dX10_next_60 rfl ?_
    refine j_icmp_ne (tgt := 68) (pc' := 64) hκ dX10_next_61 (by decide) rfl (fun c => ?_) (fun c => ?_)
    · replace h := h.1 c
      refine lb_m_next_68 hκ hR hK11 hK119 _ _ _ _ _  h
    · replace h := h.2 c
      refine lb_m_next_64 hκ hR hK11 hK119 _ _ _ _ _  h
def wp_m_next_11_s (K119 : ST → Int32 → Prop) (K127 : ST → Int32 → Int32 → Int32 → Prop) (post : Int32 → ST → Prop) (rec : ST → Int32 → Int32 → Int32 → Int32 → Prop) (M : ST) (l1 : Int32) (l2 : Int32) (l3 : Int32) (l4 : Int32) : Prop :=
  ((m_lanes M) ≤ l4 → (K127 M l1 l2 l3)) ∧ (¬ (m_lanes M) ≤ l4 → (vp_in l4 100 ∧ ((¬ (m_from M l4.toNatClampNeg) = l1 → (wp_m_next_42 rec K119 post M l1 l2 l3 l4)) ∧ ((m_from M l4.toNatClampNeg) = l1 → (vp_in l4 100 ∧ (((m_to M l4.toNatClampNeg) = l3 → (wp_m_next_64 rec K119 post M l1 l2 l3 l4)) ∧ (¬ (m_to M l4.toNatClampNeg) = l3 → (wp_m_next_42 rec K119 post M l1 l2 l3 l4))))))))
def wp_m_next_11 (K119 : ST → Int32 → Prop) (K127 : ST → Int32 → Int32 → Int32 → Prop) (post : Int32 → ST → Prop) : Nat → ST → Int32 → Int32 → Int32 → Int32 → Prop
  | 0 => fun _ _ _ _ _ => False
  | n + 1 => wp_m_next_11_s K119 K127 post (wp_m_next_11 K119 K127 post n)
set_option maxHeartbeats 4000000 in
set_option maxRecDepth 100000 in
theorem lb_m_next_11 {κ : Cx} {g : Gx} {X : ST} (hκ : CF κ g RX10 cX10_next wq_X10_next 6 rm_m_next) {post : Int32 → ST → Prop} (hR : RtmI κ g 6 cX10_next X post) {K119 : ST → Int32 → Prop} {K127 : ST → Int32 → Int32 → Int32 → Prop} (hK119 : ∀ (M : ST) (l3 : Int32), K119 M l3 → Jw κ g 6 X M [(3, .int l3)] 119 []) (hK127 : ∀ (M : ST) (l1 : Int32) (l2 : Int32) (l3 : Int32), K127 M l1 l2 l3 → Jw κ g 6 X M [(0, .ref (g.2.1 11)), (1, .int l1), (2, .int l2), (3, .int l3)] 127 []) : ∀ (n : Nat) (M : ST) (l1 : Int32) (l2 : Int32) (l3 : Int32) (l4 : Int32), wp_m_next_11 K119 K127 post n M l1 l2 l3 l4 → Jw κ g 6 X M [(0, .ref (g.2.1 11)), (1, .int l1), (2, .int l2), (3, .int l3), (4, .int l4)] 11 [] := by
  intro n
  induction n with
  | zero =>
    intro M l1 l2 l3 l4  h
    exact h.elim
  | succ n ih =>
    intro M l1 l2 l3 l4  h
    have h : wp_m_next_11_s K119 K127 post (wp_m_next_11 K119 K127 post n) M l1 l2 l3 l4 := h
    unfold wp_m_next_11_s at h
    refine j_iload (pc' := 13) hκ 4 rfl dX10_next_11 rfl ?_
    refine j_aload_n (pc' := 14) hκ 0 rfl rfl dX10_next_13 rfl ?_
    refine jg_11_0 (pc' := 17) hκ (mi inlX10) (fl_in hκ (mc wm_8_20)) dX10_next_14 rfl ?_
    refine j_icmp_ge (tgt := 127) (pc' := 20) hκ dX10_next_17 (by decide) rfl (fun c => ?_) (fun c => ?_)
    · replace h := h.1 c
      refine j_sub [0, 1, 2, 3] rfl ?_
      exact hK127 _ _ _ _  h
    · replace h := h.2 c
      refine j_aload_n (pc' := 21) hκ 0 rfl rfl dX10_next_20 rfl ?_
      refine jg_11_1 (pc' := 24) hκ (mi inlX10) (fl_in hκ (mc wm_7_10)) dX10_next_21 rfl ?_
      refine j_iload (pc' := 26) hκ 4 rfl dX10_next_24 rfl ?_
      refine jm_iald (pc' := 27) hκ (ah_47 g) h.1 dX10_next_26 rfl ?_
      replace h := h.2
      refine j_iload_n (pc' := 28) hκ 1 rfl rfl dX10_next_27 rfl ?_
      refine j_icmp_ne (tgt := 42) (pc' := 31) hκ dX10_next_28 (by decide) rfl (fun c => ?_) (fun c => ?_)
      · replace h := h.1 c
        refine lb_m_next_42 hκ hR ih hK119 _ _ _ _ _  h
      · replace h := h.2 c
        refine j_aload_n (pc' := 32) hκ 0 rfl rfl dX10_next_31 rfl ?_
        refine jg_11_2 (pc' := 35) hκ (mi inlX10) (fl_in hκ (mc wm_7_11)) dX10_next_32 rfl ?_
        refine j_iload (pc' := 37) hκ 4 rfl dX10_next_35 rfl ?_
        refine jm_iald (pc' := 38) hκ (ah_48 g) h.1 dX10_next_37 rfl ?_
        replace h := h.2
        refine j_iload_n (pc' := 39) hκ 3 rfl rfl dX10_next_38 rfl ?_
        refine j_icmp_eq (tgt := 64) (pc' := 42) hκ dX10_next_39 (by decide) rfl (fun c => ?_) (fun c => ?_)
        · replace h := h.1 c
          refine lb_m_next_64 hκ hR ih hK119 _ _ _ _ _  h
        · replace h := h.2 c
          refine lb_m_next_42 hκ hR ih hK119 _ _ _ _ _  h
def wp_m_next_2_s (K119 : ST → Int32 → Prop) (K133 : ST → Prop) (post : Int32 → ST → Prop) (rec : ST → Int32 → Int32 → Int32 → Prop) (M : ST) (l1 : Int32) (l2 : Int32) (l3 : Int32) : Prop :=
  (40 ≤ l3 → (K133 M)) ∧ (¬ 40 ≤ l3 → (∃ n, wp_m_next_11 K119 (fun M1 v2 v3 v4 => rec M1 v2 v3 (v4 + 1)) post n M l1 l2 l3 0))
def wp_m_next_2 (K119 : ST → Int32 → Prop) (K133 : ST → Prop) (post : Int32 → ST → Prop) : Nat → ST → Int32 → Int32 → Int32 → Prop
  | 0 => fun _ _ _ _ => False
  | n + 1 => wp_m_next_2_s K119 K133 post (wp_m_next_2 K119 K133 post n)
set_option maxHeartbeats 4000000 in
set_option maxRecDepth 100000 in
theorem lb_m_next_2 {κ : Cx} {g : Gx} {X : ST} (hκ : CF κ g RX10 cX10_next wq_X10_next 6 rm_m_next) {post : Int32 → ST → Prop} (hR : RtmI κ g 6 cX10_next X post) {K119 : ST → Int32 → Prop} {K133 : ST → Prop} (hK119 : ∀ (M : ST) (l3 : Int32), K119 M l3 → Jw κ g 6 X M [(3, .int l3)] 119 []) (hK133 : ∀ (M : ST), K133 M → Jw κ g 6 X M [] 133 []) : ∀ (n : Nat) (M : ST) (l1 : Int32) (l2 : Int32) (l3 : Int32), wp_m_next_2 K119 K133 post n M l1 l2 l3 → Jw κ g 6 X M [(0, .ref (g.2.1 11)), (1, .int l1), (2, .int l2), (3, .int l3)] 2 [] := by
  intro n
  induction n with
  | zero =>
    intro M l1 l2 l3  h
    exact h.elim
  | succ n ih =>
    intro M l1 l2 l3  h
    have h : wp_m_next_2_s K119 K133 post (wp_m_next_2 K119 K133 post n) M l1 l2 l3 := h
    unfold wp_m_next_2_s at h
    refine j_iload_n (pc' := 3) hκ 3 rfl rfl dX10_next_2 rfl ?_
    refine j_bipush (pc' := 5) (v := 40) hκ (by decide) dX10_next_3 rfl ?_
    refine j_icmp_ge (tgt := 133) (pc' := 8) hκ dX10_next_5 (by decide) rfl (fun c => ?_) (fun c => ?_)
    · replace h := h.1 c
      refine j_sub [] rfl ?_
      exact hK133 _  h
    · replace h := h.2 c
      refine j_iconst (pc' := 9) (v := 0) hκ (by decide) dX10_next_8 rfl ?_
      refine j_istore (pc' := 11) (lv' := [(4, .int 0), (0, .ref (g.2.1 11)), (1, .int l1), (2, .int l2), (3, .int l3)]) hκ (Nat.le_of_ble_eq_true rfl) rfl dX10_next_9 rfl ?_
      obtain ⟨n, h⟩ := h
      refine j_sub [1, 2, 3, 4, 0] rfl ?_
      refine lb_m_next_11 hκ hR hK119 ?_ n _ _ _ _ _  h
      intro M1 v2 v3 v4  h
      refine j_iinc (pc' := 130) (v := v4 + 1) (lv' := [(3, .int (v4 + 1)), (0, .ref (g.2.1 11)), (1, .int v2), (2, .int v3)]) hκ 3 rfl rfl (Nat.le_of_ble_eq_true rfl) rfl dX10_next_127 rfl ?_
      refine j_goto (pc' := 2) hκ (by decide) dX10_next_130 ?_
      refine j_sub [1, 2, 3, 0] rfl ?_
      exact ih _ _ _ _  h
def wp_m_next (M : ST) (p1 : Int32) (p2 : Int32) (post : Int32 → ST → Prop) : Prop :=
  ∃ n, wp_m_next_2 (fun M5 v6 => post v6 M5) (fun M7 => post (-1) M7) post n M p1 p2 0
set_option maxHeartbeats 4000000 in
set_option maxRecDepth 100000 in
theorem lb_m_next {κ : Cx} {g : Gx} {X : ST} (hκ : CF κ g RX10 cX10_next wq_X10_next 6 rm_m_next) {post : Int32 → ST → Prop} (hR : RtmI κ g 6 cX10_next X post) {M : ST} {p1 : Int32} {p2 : Int32} (h : wp_m_next M p1 p2 post) : Jw κ g 6 X M [(0, .ref (g.2.1 11)), (1, .int p1), (2, .int p2)] 0 [] := by
  unfold wp_m_next at h
  refine j_iconst (pc' := 1) (v := 0) hκ (by decide) dX10_next_0 rfl ?_
  refine j_istore_n (pc' := 2) (lv' := [(3, .int 0), (0, .ref (g.2.1 11)), (1, .int p1), (2, .int p2)]) hκ (Nat.le_of_ble_eq_true rfl) rfl rfl dX10_next_1 rfl ?_
  obtain ⟨n, h⟩ := h
  refine j_sub [1, 2, 3, 0] rfl ?_
  refine lb_m_next_2 hκ hR ?_ ?_ n _ _ _ _  h
  · intro M5 v6  h
    refine j_iload_n (pc' := 120) hκ 0 rfl rfl dX10_next_119 rfl ?_
    exact hR _ _ _ _ dX10_next_120 h
  · intro M7  h
    refine j_iconst (pc' := 134) (v := (-1)) hκ (by decide) dX10_next_133 rfl ?_
    exact hR _ _ _ _ dX10_next_134 h
theorem c_m_next {g : Gx} (hg : Dg g) {X M : ST} {p1 : Int32} {p2 : Int32} {post : Int32 → ST → Prop} (h : wp_m_next M p1 p2 post) (l : Launch) : Met l yX10_next wq_X10_next rm_m_next (va_Pc [.ref (g.2.1 11), .int p1, .int p2] (PU g X M)) (va_Qi post (fun Y t => va_P g.1 vwCl (ww g X Y) t.heap) (wA g)) 0 0 (wA g) :=
  met_mi hg (by decide) rfl [.ref (g.2.1 11), .int p1, .int p2] rfl (Nat.le_of_ble_eq_true rfl) (fun κ hκ hR => lb_m_next hκ hR h) l
