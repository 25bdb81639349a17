theorem wm_16_13 : Cond.methodLink RX10 130 yX10_next ∈ wAll := inr_16 (List.mem_of_getElem? (i := 13) rfl)
theorem wm_16_14 : Cond.instanceMethod yX10_next ∈ wAll := inr_16 (List.mem_of_getElem? (i := 14) rfl)
theorem wm_16_15 : Cond.selects RX10 yX10_next yX10_next ∈ wAll := inr_16 (List.mem_of_getElem? (i := 15) rfl)
theorem wm_16_16 : Cond.code yX10_next cX10_next 6 (some .int) ∈ wAll := inr_16 (List.mem_of_getElem? (i := 16) rfl)
theorem hqV_X10_next : yX10_next.cls = RX10 ∧ yX10_next.cls ≠ "java/lang/invoke/MethodHandle" ∧ yX10_next.cls ≠ "java/lang/invoke/VarHandle" ∧ (parseMethodDescriptor yX10_next.desc).map (fun d => d.parameters.length) = some 2 := by decide +kernel
abbrev rm_m_walk : Room := { frames := 1, cells := 0, slots := 0, locals := 25 }
def wp_m_walk_42_s (K54 : ST → Prop) (K71 : ST → Int32 → Prop) (post : Int32 → ST → Prop) (rec : ST → Int32 → Int32 → Int32 → Int32 → Prop) (M : ST) (l2 : Int32) (l3 : Int32) (l4 : Int32) (l5 : Int32) : Prop :=
  (l3 ≤ l5 → (K71 M l4)) ∧ (¬ l3 ≤ l5 → ((¬ l4 = l2 → (wp_m_next M l4 l2 (fun r6 M5 => rec M5 l2 l3 r6 (l5 + 1)))) ∧ (l4 = l2 → (K54 M))))
def wp_m_walk_42 (K54 : ST → Prop) (K71 : ST → Int32 → Prop) (post : Int32 → ST → Prop) : Nat → ST → Int32 → Int32 → Int32 → Int32 → Prop
  | 0 => fun _ _ _ _ _ => False
  | n + 1 => wp_m_walk_42_s K54 K71 post (wp_m_walk_42 K54 K71 post n)
set_option maxHeartbeats 4000000 in
set_option maxRecDepth 100000 in
theorem lb_m_walk_42 {κ : Cx} {g : Gx} {X : ST} (hκ : CF κ g RX10 cX10_walk wq_X10_walk 6 rm_m_walk) {post : Int32 → ST → Prop} (hR : RtmI κ g 6 cX10_walk X post) {K54 : ST → Prop} {K71 : ST → Int32 → Prop} (hK54 : ∀ (M : ST), K54 M → Jw κ g 6 X M [] 54 []) (hK71 : ∀ (M : ST) (l4 : Int32), K71 M l4 → Jw κ g 6 X M [(4, .int l4)] 71 []) : ∀ (n : Nat) (M : ST) (l2 : Int32) (l3 : Int32) (l4 : Int32) (l5 : Int32), wp_m_walk_42 K54 K71 post n M l2 l3 l4 l5 → Jw κ g 6 X M [(0, .ref (g.2.1 11)), (2, .int l2), (3, .int l3), (4, .int l4), (5, .int l5)] 42 [] := by
  intro n
  induction n with
  | zero =>
    intro M l2 l3 l4 l5  h
    exact h.elim
  | succ n ih =>
    intro M l2 l3 l4 l5  h
    have h : wp_m_walk_42_s K54 K71 post (wp_m_walk_42 K54 K71 post n) M l2 l3 l4 l5 := h
    unfold wp_m_walk_42_s at h
    refine j_iload (pc' := 44) hκ 4 rfl dX10_walk_42 rfl ?_
    refine j_iload_n (pc' := 45) hκ 2 rfl rfl dX10_walk_44 rfl ?_
    refine j_icmp_ge (tgt := 71) (pc' := 48) hκ dX10_walk_45 (by decide) rfl (fun c => ?_) (fun c => ?_)
    · replace h := h.1 c
      refine j_sub [3] rfl ?_
      exact hK71 _ _  h
    · replace h := h.2 c
      refine j_iload (pc' := 50) hκ 3 rfl dX10_walk_48 rfl ?_
      refine j_iload_n (pc' := 51) hκ 1 rfl rfl dX10_walk_50 rfl ?_
      refine j_icmp_ne (tgt := 56) (pc' := 54) hκ dX10_walk_51 (by decide) rfl (fun c => ?_) (fun c => ?_)
      · replace h := h.1 c
        refine j_aload_n (pc' := 57) hκ 0 rfl rfl dX10_walk_56 rfl ?_
        refine j_iload (pc' := 59) hκ 3 rfl dX10_walk_57 rfl ?_
        refine j_iload_n (pc' := 60) hκ 1 rfl rfl dX10_walk_59 rfl ?_
        refine jm_callVi (pc' := 63) hκ (c_m_next (dg hκ) h) rfl rfl rfl (gV wm_16_13 wm_16_14 wm_16_15 wm_1_5 wm_16_16) hqV_X10_next ⟨Nat.le_of_ble_eq_true rfl, Nat.le_of_ble_eq_true rfl⟩ (wg_11 g _ _) rfl rfl rfl (Nat.le_of_ble_eq_true rfl) dX10_walk_60 rfl (fun r6 M5 h => ?_)
        refine j_istore (pc' := 65) (lv' := [(4, .int r6), (0, .ref (g.2.1 11)), (2, .int l2), (3, .int l3), (5, .int l5)]) hκ (Nat.le_of_ble_eq_true rfl) rfl dX10_walk_63 rfl ?_
        refine j_iinc (pc' := 68) (v := l5 + 1) (lv' := [(5, .int (l5 + 1)), (4, .int r6), (0, .ref (g.2.1 11)), (2, .int l2), (3, .int l3)]) hκ 4 rfl rfl (Nat.le_of_ble_eq_true rfl) rfl dX10_walk_65 rfl ?_
        refine j_goto (pc' := 42) hκ (by decide) dX10_walk_68 ?_
        refine j_sub [2, 3, 4, 1, 0] rfl ?_
        exact ih _ _ _ _ _  h
      · replace h := h.2 c
        refine j_sub [] rfl ?_
        exact hK54 _  h
def wp_m_walk (M : ST) (p1 : Int32) (p2 : Int32) (p3 : Int32) (post : Int32 → ST → Prop) : Prop :=
  wp_m_isCrossing M p1 (fun r2 M1 => (r2 = 0 → (post (-1) M1)) ∧ (¬ r2 = 0 → (wp_m_isCrossing M1 p2 (fun r4 M3 => (r4 = 0 → (post (-1) M3)) ∧ (¬ r4 = 0 → (vp_in ((40 * p1) + p2) 1600 ∧ (((m_ways M3 ((40 * p1) + p2).toNatClampNeg) = 1000000000 → (post (-1) M3)) ∧ (¬ (m_ways M3 ((40 * p1) + p2).toNatClampNeg) = 1000000000 → ((0 ≤ p3 → (∃ n, wp_m_walk_42 (fun M7 => post (-1) M7) (fun M8 v9 => post v9 M8) post n M3 p2 p3 p1 0)) ∧ (¬ 0 ≤ p3 → (post (-1) M3)))))))))))
set_option maxHeartbeats 4000000 in
set_option maxRecDepth 100000 in
theorem lb_m_walk {κ : Cx} {g : Gx} {X : ST} (hκ : CF κ g RX10 cX10_walk wq_X10_walk 6 rm_m_walk) {post : Int32 → ST → Prop} (hR : RtmI κ g 6 cX10_walk X post) {M : ST} {p1 : Int32} {p2 : Int32} {p3 : Int32} (h : wp_m_walk M p1 p2 p3 post) : Jw κ g 6 X M [(0, .ref (g.2.1 11)), (1, .int p1), (2, .int p2), (3, .int p3)] 0 [] := by
  unfold wp_m_walk at h
  refine j_iload_n (pc' := 1) hκ 1 rfl rfl dX10_walk_0 rfl ?_
  refine jm_callSi (pc' := 4) hκ (c_m_isCrossing (dg hκ) h) rfl rfl rfl (gS wm_10_9 wm_10_10 wm_1_5 wm_10_11) hqS_X10_isCrossing ⟨Nat.le_of_ble_eq_true rfl, Nat.le_of_ble_eq_true rfl⟩ rfl rfl (Nat.le_of_ble_eq_true rfl) dX10_walk_1 rfl (fun r2 M1 h => ?_)
  refine j_if_eq (tgt := 34) (pc' := 7) hκ dX10_walk_4 (by decide) rfl (fun c => ?_) (fun c => ?_)
  · replace h := h.1 c
    refine j_iconst (pc' := 35) (v := (-1)) hκ (by decide) dX10_walk_34 rfl ?_
    exact hR _ _ _ _ dX10_walk_35 h
  · replace h := h.2 c
    refine j_iload_n (pc' := 8) hκ 2 rfl rfl dX10_walk_7 rfl ?_
    refine jm_callSi (pc' := 11) hκ (c_m_isCrossing (dg hκ) h) rfl rfl rfl (gS wm_10_9 wm_10_10 wm_1_5 wm_10_11) hqS_X10_isCrossing ⟨Nat.le_of_ble_eq_true rfl, Nat.le_of_ble_eq_true rfl⟩ rfl rfl (Nat.le_of_ble_eq_true rfl) dX10_walk_8 rfl (fun r4 M3 h => ?_)
    refine j_if_eq (tgt := 34) (pc' := 14) hκ dX10_walk_11 (by decide) rfl (fun c => ?_) (fun c => ?_)
    · replace h := h.1 c
      refine j_iconst (pc' := 35) (v := (-1)) hκ (by decide) dX10_walk_34 rfl ?_
      exact hR _ _ _ _ dX10_walk_35 h
    · replace h := h.2 c
      refine j_aload_n (pc' := 15) hκ 0 rfl rfl dX10_walk_14 rfl ?_
      refine jg_11_8 (pc' := 18) hκ (mi inlX10) (fl_in hκ (mc wm_7_17)) dX10_walk_15 rfl ?_
      refine j_bipush (pc' := 20) (v := 40) hκ (by decide) dX10_walk_18 rfl ?_
      refine j_iload_n (pc' := 21) hκ 1 rfl rfl dX10_walk_20 rfl ?_
      refine j_imul (pc' := 22) hκ dX10_walk_21 rfl ?_
      refine j_iload_n (pc' := 23) hκ 2 rfl rfl dX10_walk_22 rfl ?_
      refine j_iadd (pc' := 24) hκ dX10_walk_23 rfl ?_
      refine jm_iald (pc' := 25) hκ (ah_54 g) h.1 dX10_walk_24 rfl ?_
      replace h := h.2
      refine j_ldc (pc' := 27) hκ (mc wm_8_19) dX10_walk_25 rfl ?_
      refine j_icmp_eq (tgt := 34) (pc' := 30) hκ dX10_walk_27 (by decide) rfl (fun c => ?_) (fun c => ?_)
      · replace h := h.1 c
        refine j_iconst (pc' := 35) (v := (-1)) hκ (by decide) dX10_walk_34 rfl ?_
        exact hR _ _ _ _ dX10_walk_35 h
      · replace h := h.2 c
        refine j_iload_n (pc' := 31) hκ 3 rfl rfl dX10_walk_30 rfl ?_
        refine j_if_ge (tgt := 36) (pc' := 34) hκ dX10_walk_31 (by decide) rfl (fun c => ?_) (fun c => ?_)
        · replace h := h.1 c
          refine j_iload_n (pc' := 37) hκ 1 rfl rfl dX10_walk_36 rfl ?_
          refine j_istore (pc' := 39) (lv' := [(4, .int p1), (0, .ref (g.2.1 11)), (1, .int p1), (2, .int p2), (3, .int p3)]) hκ (Nat.le_of_ble_eq_true rfl) rfl dX10_walk_37 rfl ?_
          refine j_iconst (pc' := 40) (v := 0) hκ (by decide) dX10_walk_39 rfl ?_
          refine j_istore (pc' := 42) (lv' := [(5, .int 0), (4, .int p1), (0, .ref (g.2.1 11)), (1, .int p1), (2, .int p2), (3, .int p3)]) hκ (Nat.le_of_ble_eq_true rfl) rfl dX10_walk_40 rfl ?_
          obtain ⟨n, h⟩ := h
          refine j_sub [2, 4, 5, 1, 0] rfl ?_
          refine lb_m_walk_42 hκ hR ?_ ?_ n _ _ _ _ _  h
          · intro M7  h
            refine j_iconst (pc' := 55) (v := (-1)) hκ (by decide) dX10_walk_54 rfl ?_
            exact hR _ _ _ _ dX10_walk_55 h
          · intro M8 v9  h
            refine j_iload (pc' := 73) hκ 0 rfl dX10_walk_71 rfl ?_
            exact hR _ _ _ _ dX10_walk_73 h
        · replace h := h.2 c
          refine j_iconst (pc' := 35) (v := (-1)) hκ (by decide) dX10_walk_34 rfl ?_
          exact hR _ _ _ _ dX10_walk_35 h
theorem c_m_walk {g : Gx} (hg : Dg g) {X M : ST} {p1 : Int32} {p2 : Int32} {p3 : Int32} {post : Int32 → ST → Prop} (h : wp_m_walk M p1 p2 p3 post) (l : Launch) : Met l yX10_walk wq_X10_walk rm_m_walk (va_Pc [.ref (g.2.1 11), .int p1, .int p2, .int p3] (PU g X M)) (va_Qi post (fun Y t => va_P g.1 vwCl (ww g X Y) t.heap) (wA g)) 0 0 (wA g) :=
  met_mi hg (by decide) rfl [.ref (g.2.1 11), .int p1, .int p2, .int p3] rfl (Nat.le_of_ble_eq_true rfl) (fun κ hκ hR => lb_m_walk hκ hR h) l
theorem wm_17_13 : Cond.fieldLink RX10 107 "LampRoundModel" "lamps" "I" ∈ wAll := inr_17 (List.mem_of_getElem? (i := 13) rfl)
theorem wm_7_18 : Cond.fieldLink RX10 36 "LampRoundModel" "crossing" "[I" ∈ wAll := inr_7 (List.mem_of_getElem? (i := 18) rfl)
theorem wm_7_19 : Cond.fieldLink RX10 39 "LampRoundModel" "kind" "[I" ∈ wAll := inr_7 (List.mem_of_getElem? (i := 19) rfl)
theorem wm_7_20 : Cond.fieldLink RX10 42 "LampRoundModel" "other" "[I" ∈ wAll := inr_7 (List.mem_of_getElem? (i := 20) rfl)
theorem wm_7_21 : Cond.fieldLink RX10 45 "LampRoundModel" "isOut" "[Z" ∈ wAll := inr_7 (List.mem_of_getElem? (i := 21) rfl)
theorem wm_7_22 : Cond.fieldLink RX10 48 "LampRoundModel" "price" "[I" ∈ wAll := inr_7 (List.mem_of_getElem? (i := 22) rfl)
abbrev rm_m_isLamp : Room := { frames := 0, cells := 0, slots := 0, locals := 0 }
def wp_m_isLamp (M : ST) (p1 : Int32) (post : Int32 → ST → Prop) : Prop :=
  (p1 < 0 → (post 0 M)) ∧ (¬ p1 < 0 → (((m_lamps M) ≤ p1 → (post 0 M)) ∧ (¬ (m_lamps M) ≤ p1 → (post 1 M))))
set_option maxHeartbeats 4000000 in
set_option maxRecDepth 100000 in
theorem lb_m_isLamp {κ : Cx} {g : Gx} {X : ST} (hκ : CF κ g RX10 cX10_isLamp wq_X10_isLamp 2 rm_m_isLamp) {post : Int32 → ST → Prop} (hR : RtmZ κ g 2 cX10_isLamp X post) {M : ST} {p1 : Int32} (h : wp_m_isLamp M p1 post) : Jw κ g 2 X M [(0, .ref (g.2.1 11)), (1, .int p1)] 0 [] := by
  unfold wp_m_isLamp at h
  refine j_iload_n (pc' := 1) hκ 1 rfl rfl dX10_isLamp_0 rfl ?_
  refine j_if_lt (tgt := 16) (pc' := 4) hκ dX10_isLamp_1 (by decide) rfl (fun c => ?_) (fun c => ?_)
  · replace h := h.1 c
    refine j_iconst (pc' := 17) (v := 0) hκ (by decide) dX10_isLamp_16 rfl ?_
    exact hR _ _ _ _ dX10_isLamp_17 (Or.inl rfl) h
  · replace h := h.2 c
    refine j_iload_n (pc' := 5) hκ 1 rfl rfl dX10_isLamp_4 rfl ?_
    refine j_aload_n (pc' := 6) hκ 0 rfl rfl dX10_isLamp_5 rfl ?_
    refine jg_11_9 (pc' := 9) hκ (mi inlX10) (fl_in hκ (mc wm_17_13)) dX10_isLamp_6 rfl ?_
    refine j_icmp_ge (tgt := 16) (pc' := 12) hκ dX10_isLamp_9 (by decide) rfl (fun c => ?_) (fun c => ?_)
    · replace h := h.1 c
      refine j_iconst (pc' := 17) (v := 0) hκ (by decide) dX10_isLamp_16 rfl ?_
      exact hR _ _ _ _ dX10_isLamp_17 (Or.inl rfl) h
    · replace h := h.2 c
      refine j_iconst (pc' := 13) (v := 1) hκ (by decide) dX10_isLamp_12 rfl ?_
      refine j_goto (pc' := 17) hκ (by decide) dX10_isLamp_13 ?_
      exact hR _ _ _ _ dX10_isLamp_17 (Or.inr rfl) h
theorem c_m_isLamp {g : Gx} (hg : Dg g) {X M : ST} {p1 : Int32} {post : Int32 → ST → Prop} (h : wp_m_isLamp M p1 post) (l : Launch) : Met l yX10_isLamp wq_X10_isLamp rm_m_isLamp (va_Pc [.ref (g.2.1 11), .int p1] (PU g X M)) (va_Qi post (fun Y t => va_P g.1 vwCl (ww g X Y) t.heap) (wA g)) 0 0 (wA g) :=
  met_mz hg (by decide) rfl [.ref (g.2.1 11), .int p1] rfl (Nat.le_of_ble_eq_true rfl) (fun κ hκ hR => lb_m_isLamp hκ hR h) l
theorem wm_17_14 : Cond.methodLink RX10 110 yX10_isLamp ∈ wAll := inr_17 (List.mem_of_getElem? (i := 14) rfl)
theorem wm_17_15 : Cond.instanceMethod yX10_isLamp ∈ wAll := inr_17 (List.mem_of_getElem? (i := 15) rfl)
theorem wm_17_16 : Cond.selects RX10 yX10_isLamp yX10_isLamp ∈ wAll := inr_17 (List.mem_of_getElem? (i := 16) rfl)
theorem wm_17_17 : Cond.code yX10_isLamp cX10_isLamp 2 (some .boolean) ∈ wAll := inr_17 (List.mem_of_getElem? (i := 17) rfl)
theorem hqV_X10_isLamp : yX10_isLamp.cls = RX10 ∧ yX10_isLamp.cls ≠ "java/lang/invoke/MethodHandle" ∧ yX10_isLamp.cls ≠ "java/lang/invoke/VarHandle" ∧ (parseMethodDescriptor yX10_isLamp.desc).map (fun d => d.parameters.length) = some 1 := by decide +kernel
abbrev rm_m_lamp : Room := { frames := 1, cells := 0, slots := 0, locals := 21 }
def wp_m_lamp_21_s (K41 : ST → Prop) (K50 : ST → Int32 → Int32 → Int32 → Prop) (post : Int32 → ST → Prop) (rec : ST → Int32 → Int32 → Int32 → Int32 → Prop) (M : ST) (l1 : Int32) (l2 : Int32) (l3 : Int32) (l4 : Int32) : Prop :=
  ((m_lamps M) ≤ l4 → (K50 M l1 l2 l3)) ∧ (¬ (m_lamps M) ≤ l4 → (vp_in l4 12 ∧ ((¬ (m_crossing M l4.toNatClampNeg) = l1 → (rec M l1 l2 l3 (l4 + 1))) ∧ ((m_crossing M l4.toNatClampNeg) = l1 → (K41 M)))))
def wp_m_lamp_21 (K41 : ST → Prop) (K50 : ST → Int32 → Int32 → Int32 → Prop) (post : Int32 → ST → Prop) : Nat → ST → Int32 → Int32 → Int32 → Int32 → Prop
  | 0 => fun _ _ _ _ _ => False
  | n + 1 => wp_m_lamp_21_s K41 K50 post (wp_m_lamp_21 K41 K50 post n)
set_option maxHeartbeats 4000000 in
set_option maxRecDepth 100000 in
theorem lb_m_lamp_21 {κ : Cx} {g : Gx} {X : ST} (hκ : CF κ g RX10 cX10_lamp wq_X10_lamp 5 rm_m_lamp) {post : Int32 → ST → Prop} (hR : RtmI κ g 5 cX10_lamp X post) {K41 : ST → Prop} {K50 : ST → Int32 → Int32 → Int32 → Prop} (hK41 : ∀ (M : ST), K41 M → Jw κ g 5 X M [] 41 []) (hK50 : ∀ (M : ST) (l1 : Int32) (l2 : Int32) (l3 : Int32), K50 M l1 l2 l3 → Jw κ g 5 X M [(0, .ref (g.2.1 11)), (1, .int l1), (2, .int l2), (3, .int l3)] 50 []) : ∀ (n : Nat) (M : ST) (l1 : Int32) (l2 : Int32) (l3 : Int32) (l4 : Int32), wp_m_lamp_21 K41 K50 post n M l1 l2 l3 l4 → Jw κ g 5 X M [(0, .ref (g.2.1 11)), (1, .int l1), (2, .int l2), (3, .int l3), (4, .int l4)] 21 [] := by
  intro n
  induction n with
  | zero =>
    intro M l1 l2 l3 l4  h
    exact h.elim
  | succ n ih =>
    intro M l1 l2 l3 l4  h
    have h : wp_m_lamp_21_s K41 K50 post (wp_m_lamp_21 K41 K50 post n) M l1 l2 l3 l4 := h
    unfold wp_m_lamp_21_s at h
    refine j_iload (pc' := 23) hκ 4 rfl dX10_lamp_21 rfl ?_
    refine j_aload_n (pc' := 24) hκ 0 rfl rfl dX10_lamp_23 rfl ?_
    refine jg_11_9 (pc' := 27) hκ (mi inlX10) (fl_in hκ (mc wm_17_13)) dX10_lamp_24 rfl ?_
    refine j_icmp_ge (tgt := 50) (pc' := 30) hκ dX10_lamp_27 (by decide) rfl (fun c => ?_) (fun c => ?_)
    · replace h := h.1 c
      refine j_sub [0, 1, 2, 3] rfl ?_
      exact hK50 _ _ _ _  h
    · replace h := h.2 c
      refine j_aload_n (pc' := 31) hκ 0 rfl rfl dX10_lamp_30 rfl ?_
      refine jg_11_10 (pc' := 34) hκ (mi inlX10) (fl_in hκ (mc wm_7_18)) dX10_lamp_31 rfl ?_
      refine j_iload (pc' := 36) hκ 4 rfl dX10_lamp_34 rfl ?_
      refine jm_iald (pc' := 37) hκ (ah_55 g) h.1 dX10_lamp_36 rfl ?_
      replace h := h.2
      refine j_iload_n (pc' := 38) hκ 1 rfl rfl dX10_lamp_37 rfl ?_
      refine j_icmp_ne (tgt := 44) (pc' := 41) hκ dX10_lamp_38 (by decide) rfl (fun c => ?_) (fun c => ?_)
      · replace h := h.1 c
        refine j_iinc (pc' := 47) (v := l4 + 1) (lv' := [(4, .int (l4 + 1)), (0, .ref (g.2.1 11)), (1, .int l1), (2, .int l2), (3, .int l3)]) hκ 4 rfl rfl (Nat.le_of_ble_eq_true rfl) rfl dX10_lamp_44 rfl ?_
        refine j_goto (pc' := 21) hκ (by decide) dX10_lamp_47 ?_
        refine j_sub [1, 2, 3, 4, 0] rfl ?_
        exact ih _ _ _ _ _  h
      · replace h := h.2 c
        refine j_sub [] rfl ?_
        exact hK41 _  h
def wp_m_lamp_65 (post : Int32 → ST → Prop) (M : ST) (l1 : Int32) (l2 : Int32) (l3 : Int32) : Prop :=
  (¬ (m_lamps M) = 12 → (vp_in (m_lamps M) 12 ∧ (∀ M8 : ST, M8 = ms_crossing M (upd (m_crossing M) (m_lamps M).toNatClampNeg l1) → vp_in (m_lamps M8) 12 ∧ (∀ M9 : ST, M9 = ms_kind M8 (upd (m_kind M8) (m_lamps M8).toNatClampNeg l2) → vp_in (m_lamps M9) 12 ∧ (∀ M10 : ST, M10 = ms_other M9 (upd (m_other M9) (m_lamps M9).toNatClampNeg l3) → vp_in (m_lamps M10) 12 ∧ (∀ M11 : ST, M11 = ms_isOut M10 (upd (m_isOut M10) (m_lamps M10).toNatClampNeg (vp_nar .boolean 0)) → vp_in (m_lamps M11) 12 ∧ (∀ M12 : ST, M12 = ms_price M11 (upd (m_price M11) (m_lamps M11).toNatClampNeg 0) → ∀ M13 : ST, M13 = ms_lamps M12 ((m_lamps M12) + 1) → ∀ M14 : ST, M14 = ms_told M13 0 → post ((m_lamps M14) - 1) M14))))))) ∧ ((m_lamps M) = 12 → (post (-2) M))
set_option maxHeartbeats 4000000 in
set_option maxRecDepth 100000 in
theorem lb_m_lamp_65 {κ : Cx} {g : Gx} {X : ST} (hκ : CF κ g RX10 cX10_lamp wq_X10_lamp 5 rm_m_lamp) {post : Int32 → ST → Prop} (hR : RtmI κ g 5 cX10_lamp X post) : ∀ (M : ST) (l1 : Int32) (l2 : Int32) (l3 : Int32), wp_m_lamp_65 post M l1 l2 l3 → Jw κ g 5 X M [(0, .ref (g.2.1 11)), (1, .int l1), (2, .int l2), (3, .int l3)] 65 [] := by
  intro M l1 l2 l3  h
  unfold wp_m_lamp_65 at h
  refine j_aload_n (pc' := 66) hκ 0 rfl rfl dX10_lamp_65 rfl ?_
  refine jg_11_9 (pc' := 69) hκ (mi inlX10) (fl_in hκ (mc wm_17_13)) dX10_lamp_66 rfl ?_
  refine j_bipush (pc' := 71) (v := 12) hκ (by decide) dX10_lamp_69 rfl ?_
  refine j_icmp_ne (tgt := 77) (pc' := 74) hκ dX10_lamp_71 (by decide) rfl (fun c => ?_) (fun c => ?_)
  · replace h := h.1 c
    refine j_aload_n (pc' := 78) hκ 0 rfl rfl dX10_lamp_77 rfl ?_
    refine jg_11_10 (pc' := 81) hκ (mi inlX10) (fl_in hκ (mc wm_7_18)) dX10_lamp_78 rfl ?_
    refine j_aload_n (pc' := 82) hκ 0 rfl rfl dX10_lamp_81 rfl ?_
    refine jg_11_9 (pc' := 85) hκ (mi inlX10) (fl_in hκ (mc wm_17_13)) dX10_lamp_82 rfl ?_
    refine j_iload_n (pc' := 86) hκ 1 rfl rfl dX10_lamp_85 rfl ?_
    refine jm_iast (pc' := 87) hκ (ah_55 g) h.1 dX10_lamp_86 rfl ?_
    replace h := h.2
    refine j_nmM (fun M8 eM8 => ?_)
    replace h := h M8 eM8
    refine j_aload_n (pc' := 88) hκ 0 rfl rfl dX10_lamp_87 rfl ?_
    refine jg_11_11 (pc' := 91) hκ (mi inlX10) (fl_in hκ (mc wm_7_19)) dX10_lamp_88 rfl ?_
    refine j_aload_n (pc' := 92) hκ 0 rfl rfl dX10_lamp_91 rfl ?_
    refine jg_11_9 (pc' := 95) hκ (mi inlX10) (fl_in hκ (mc wm_17_13)) dX10_lamp_92 rfl ?_
    refine j_iload_n (pc' := 96) hκ 2 rfl rfl dX10_lamp_95 rfl ?_
    refine jm_iast (pc' := 97) hκ (ah_56 g) h.1 dX10_lamp_96 rfl ?_
    replace h := h.2
    refine j_nmM (fun M9 eM9 => ?_)
    replace h := h M9 eM9
    refine j_aload_n (pc' := 98) hκ 0 rfl rfl dX10_lamp_97 rfl ?_
    refine jg_11_12 (pc' := 101) hκ (mi inlX10) (fl_in hκ (mc wm_7_20)) dX10_lamp_98 rfl ?_
    refine j_aload_n (pc' := 102) hκ 0 rfl rfl dX10_lamp_101 rfl ?_
    refine jg_11_9 (pc' := 105) hκ (mi inlX10) (fl_in hκ (mc wm_17_13)) dX10_lamp_102 rfl ?_
    refine j_iload_n (pc' := 106) hκ 3 rfl rfl dX10_lamp_105 rfl ?_
    refine jm_iast (pc' := 107) hκ (ah_57 g) h.1 dX10_lamp_106 rfl ?_
    replace h := h.2
    refine j_nmM (fun M10 eM10 => ?_)
    replace h := h M10 eM10
    refine j_aload_n (pc' := 108) hκ 0 rfl rfl dX10_lamp_107 rfl ?_
    refine jg_11_13 (pc' := 111) hκ (mi inlX10) (fl_in hκ (mc wm_7_21)) dX10_lamp_108 rfl ?_
    refine j_aload_n (pc' := 112) hκ 0 rfl rfl dX10_lamp_111 rfl ?_
    refine jg_11_9 (pc' := 115) hκ (mi inlX10) (fl_in hκ (mc wm_17_13)) dX10_lamp_112 rfl ?_
    refine j_iconst (pc' := 116) (v := 0) hκ (by decide) dX10_lamp_115 rfl ?_
    refine jm_zast (pc' := 117) hκ (ah_58 g) h.1 dX10_lamp_116 rfl ?_
    replace h := h.2
    refine j_nmM (fun M11 eM11 => ?_)
    replace h := h M11 eM11
    refine j_aload_n (pc' := 118) hκ 0 rfl rfl dX10_lamp_117 rfl ?_
    refine jg_11_14 (pc' := 121) hκ (mi inlX10) (fl_in hκ (mc wm_7_22)) dX10_lamp_118 rfl ?_
    refine j_aload_n (pc' := 122) hκ 0 rfl rfl dX10_lamp_121 rfl ?_
    refine jg_11_9 (pc' := 125) hκ (mi inlX10) (fl_in hκ (mc wm_17_13)) dX10_lamp_122 rfl ?_
    refine j_iconst (pc' := 126) (v := 0) hκ (by decide) dX10_lamp_125 rfl ?_
    refine jm_iast (pc' := 127) hκ (ah_59 g) h.1 dX10_lamp_126 rfl ?_
    replace h := h.2
    refine j_nmM (fun M12 eM12 => ?_)
    replace h := h M12 eM12
    refine j_aload_n (pc' := 128) hκ 0 rfl rfl dX10_lamp_127 rfl ?_
    refine j_dup (pc' := 129) hκ rfl dX10_lamp_128 rfl ?_
    refine jg_11_9 (pc' := 132) hκ (mi inlX10) (fl_in hκ (mc wm_17_13)) dX10_lamp_129 rfl ?_
    refine j_iconst (pc' := 133) (v := 1) hκ (by decide) dX10_lamp_132 rfl ?_
    refine j_iadd (pc' := 134) hκ dX10_lamp_133 rfl ?_
    refine jp_11_9 (pc' := 137) hκ (mi inlX10) (fl_in hκ (mc wm_17_13)) dX10_lamp_134 rfl ?_
    refine j_nmM (fun M13 eM13 => ?_)
    replace h := h M13 eM13
    refine j_aload_n (pc' := 138) hκ 0 rfl rfl dX10_lamp_137 rfl ?_
    refine j_iconst (pc' := 139) (v := 0) hκ (by decide) dX10_lamp_138 rfl ?_
    refine jp_11_15 (pc' := 142) hκ (mi inlX10) (fl_in hκ (mc wm_10_8)) dX10_lamp_139 rfl ?_
    refine j_nmM (fun M14 eM14 => ?_)
    replace h := h M14 eM14
    refine j_aload_n (pc' := 143) hκ 0 rfl rfl dX10_lamp_142 rfl ?_
    refine jg_11_9 (pc' := 146) hκ (mi inlX10) (fl_in hκ (mc wm_17_13)) dX10_lamp_143 rfl ?_
    refine j_iconst (pc' := 147) (v := 1) hκ (by decide) dX10_lamp_146 rfl ?_
    refine j_isub (pc' := 148) hκ dX10_lamp_147 rfl ?_
    exact hR _ _ _ _ dX10_lamp_148 h
  · replace h := h.2 c
    refine j_bipush (pc' := 76) (v := (-2)) hκ (by decide) dX10_lamp_74 rfl ?_
    exact hR _ _ _ _ dX10_lamp_76 h
def wp_m_lamp (M : ST) (p1 : Int32) (p2 : Int32) (p3 : Int32) (post : Int32 → ST → Prop) : Prop :=
  wp_m_isCrossing M p1 (fun r2 M1 => (r2 = 0 → (post (-1) M1)) ∧ (¬ r2 = 0 → ((p2 < 0 → (post (-1) M1)) ∧ (¬ p2 < 0 → ((p2 ≤ 4 → (∃ n, wp_m_lamp_21 (fun M3 => post (-4) M3) (fun M4 v5 v6 v7 => (¬ v6 = 1 → (wp_m_lamp_65 post M4 v5 v6 v7)) ∧ (v6 = 1 → (wp_m_isLamp M4 v7 (fun r16 M15 => (¬ r16 = 0 → (wp_m_lamp_65 post M15 v5 v6 v7)) ∧ (r16 = 0 → (post (-1) M15)))))) post n M1 p1 p2 p3 0)) ∧ (¬ p2 ≤ 4 → (post (-1) M1)))))))
set_option maxHeartbeats 4000000 in
set_option maxRecDepth 100000 in
theorem lb_m_lamp {κ : Cx} {g : Gx} {X : ST} (hκ : CF κ g RX10 cX10_lamp wq_X10_lamp 5 rm_m_lamp) {post : Int32 → ST → Prop} (hR : RtmI κ g 5 cX10_lamp X post) {M : ST} {p1 : Int32} {p2 : Int32} {p3 : Int32} (h : wp_m_lamp M p1 p2 p3 post) : Jw κ g 5 X M [(0, .ref (g.2.1 11)), (1, .int p1), (2, .int p2), (3, .int p3)] 0 [] := by
  unfold wp_m_lamp at h
  refine j_iload_n (pc' := 1) hκ 1 rfl rfl dX10_lamp_0 rfl ?_
  refine jm_callSi (pc' := 4) hκ (c_m_isCrossing (dg hκ) h) rfl rfl rfl (gS wm_10_9 wm_10_10 wm_1_5 wm_10_11) hqS_X10_isCrossing ⟨Nat.le_of_ble_eq_true rfl, Nat.le_of_ble_eq_true rfl⟩ rfl rfl (Nat.le_of_ble_eq_true rfl) dX10_lamp_1 rfl (fun r2 M1 h => ?_)
  refine j_if_eq (tgt := 16) (pc' := 7) hκ dX10_lamp_4 (by decide) rfl (fun c => ?_) (fun c => ?_)
  · replace h := h.1 c
    refine j_iconst (pc' := 17) (v := (-1)) hκ (by decide) dX10_lamp_16 rfl ?_
    exact hR _ _ _ _ dX10_lamp_17 h
  · replace h := h.2 c
    refine j_iload_n (pc' := 8) hκ 2 rfl rfl dX10_lamp_7 rfl ?_
    refine j_if_lt (tgt := 16) (pc' := 11) hκ dX10_lamp_8 (by decide) rfl (fun c => ?_) (fun c => ?_)
    · replace h := h.1 c
      refine j_iconst (pc' := 17) (v := (-1)) hκ (by decide) dX10_lamp_16 rfl ?_
      exact hR _ _ _ _ dX10_lamp_17 h
    · replace h := h.2 c
      refine j_iload_n (pc' := 12) hκ 2 rfl rfl dX10_lamp_11 rfl ?_
      refine j_iconst (pc' := 13) (v := 4) hκ (by decide) dX10_lamp_12 rfl ?_
      refine j_icmp_le (tgt := 18) (pc' := 16) hκ dX10_lamp_13 (by decide) rfl (fun c => ?_) (fun c => ?_)
      · replace h := h.1 c
        refine j_iconst (pc' := 19) (v := 0) hκ (by decide) dX10_lamp_18 rfl ?_
        refine j_istore (pc' := 21) (lv' := [(4, .int 0), (0, .ref (g.2.1 11)), (1, .int p1), (2, .int p2), (3, .int p3)]) hκ (Nat.le_of_ble_eq_true rfl) rfl dX10_lamp_19 rfl ?_
        obtain ⟨n, h⟩ := h
        refine j_sub [1, 2, 3, 4, 0] rfl ?_
        refine lb_m_lamp_21 hκ hR ?_ ?_ n _ _ _ _ _  h
        · intro M3  h
          refine j_bipush (pc' := 43) (v := (-4)) hκ (by decide) dX10_lamp_41 rfl ?_
          exact hR _ _ _ _ dX10_lamp_43 h
        · intro M4 v5 v6 v7  h
          refine j_iload_n (pc' := 51) hκ 2 rfl rfl dX10_lamp_50 rfl ?_
          refine j_iconst (pc' := 52) (v := 1) hκ (by decide) dX10_lamp_51 rfl ?_
          refine j_icmp_ne (tgt := 65) (pc' := 55) hκ dX10_lamp_52 (by decide) rfl (fun c => ?_) (fun c => ?_)
          · replace h := h.1 c
            refine lb_m_lamp_65 hκ hR _ _ _ _  h
          · replace h := h.2 c
            refine j_aload_n (pc' := 56) hκ 0 rfl rfl dX10_lamp_55 rfl ?_
            refine j_iload_n (pc' := 57) hκ 3 rfl rfl dX10_lamp_56 rfl ?_
            refine jm_callVi (pc' := 60) hκ (c_m_isLamp (dg hκ) h) rfl rfl rfl (gV wm_17_14 wm_17_15 wm_17_16 wm_1_5 wm_17_17) hqV_X10_isLamp ⟨Nat.le_of_ble_eq_true rfl, Nat.le_of_ble_eq_true rfl⟩ (wg_11 g _ _) rfl rfl rfl (Nat.le_of_ble_eq_true rfl) dX10_lamp_57 rfl (fun r16 M15 h => ?_)
            refine j_if_ne (tgt := 65) (pc' := 63) hκ dX10_lamp_60 (by decide) rfl (fun c => ?_) (fun c => ?_)
            · replace h := h.1 c
              refine lb_m_lamp_65 hκ hR _ _ _ _  h
            · replace h := h.2 c
              refine j_iconst (pc' := 64) (v := (-1)) hκ (by decide) dX10_lamp_63 rfl ?_
              exact hR _ _ _ _ dX10_lamp_64 h
      · replace h := h.2 c
        refine j_iconst (pc' := 17) (v := (-1)) hκ (by decide) dX10_lamp_16 rfl ?_
        exact hR _ _ _ _ dX10_lamp_17 h
theorem c_m_lamp {g : Gx} (hg : Dg g) {X M : ST} {p1 : Int32} {p2 : Int32} {p3 : Int32} {post : Int32 → ST → Prop} (h : wp_m_lamp M p1 p2 p3 post) (l : Launch) : Met l yX10_lamp wq_X10_lamp rm_m_lamp (va_Pc [.ref (g.2.1 11), .int p1, .int p2, .int p3] (PU g X M)) (va_Qi post (fun Y t => va_P g.1 vwCl (ww g X Y) t.heap) (wA g)) 0 0 (wA g) :=
  met_mi hg (by decide) rfl [.ref (g.2.1 11), .int p1, .int p2, .int p3] rfl (Nat.le_of_ble_eq_true rfl) (fun κ hκ hR => lb_m_lamp hκ hR h) l
abbrev rm_m_dark : Room := { frames := 1, cells := 0, slots := 0, locals := 21 }
def wp_m_dark (M : ST) (p1 : Int32) (p2 : Int32) (post : Int32 → ST → Prop) : Prop :=
  wp_m_isLamp M p1 (fun r2 M1 => (¬ r2 = 0 → (vp_in p1 12 ∧ ((3 ≤ (m_kind M1 p1.toNatClampNeg) → (vp_in p1 12 ∧ ((¬ (m_isOut M1 p1.toNatClampNeg) = p2 → (vp_in p1 12 ∧ (∀ M3 : ST, M3 = ms_isOut M1 (upd (m_isOut M1) p1.toNatClampNeg (vp_nar .boolean p2)) → ∀ M4 : ST, M4 = ms_told M3 0 → post 1 M4))) ∧ ((m_isOut M1 p1.toNatClampNeg) = p2 → (post 0 M1))))) ∧ (¬ 3 ≤ (m_kind M1 p1.toNatClampNeg) → (post (-5) M1))))) ∧ (r2 = 0 → (post (-1) M1)))
set_option maxHeartbeats 4000000 in
set_option maxRecDepth 100000 in
theorem lb_m_dark {κ : Cx} {g : Gx} {X : ST} (hκ : CF κ g RX10 cX10_dark wq_X10_dark 3 rm_m_dark) {post : Int32 → ST → Prop} (hR : RtmI κ g 3 cX10_dark X post) {M : ST} {p1 : Int32} {p2 : Int32} (h : wp_m_dark M p1 p2 post) : Jw κ g 3 X M [(0, .ref (g.2.1 11)), (1, .int p1), (2, .int p2)] 0 [] := by
  unfold wp_m_dark at h
  refine j_aload_n (pc' := 1) hκ 0 rfl rfl dX10_dark_0 rfl ?_
  refine j_iload_n (pc' := 2) hκ 1 rfl rfl dX10_dark_1 rfl ?_
  refine jm_callVi (pc' := 5) hκ (c_m_isLamp (dg hκ) h) rfl rfl rfl (gV wm_17_14 wm_17_15 wm_17_16 wm_1_5 wm_17_17) hqV_X10_isLamp ⟨Nat.le_of_ble_eq_true rfl, Nat.le_of_ble_eq_true rfl⟩ (wg_11 g _ _) rfl rfl rfl (Nat.le_of_ble_eq_true rfl) dX10_dark_2 rfl (fun r2 M1 h => ?_)
  refine j_if_ne (tgt := 10) (pc' := 8) hκ dX10_dark_5 (by decide) rfl (fun c => ?_) (fun c => ?_)
  · replace h := h.1 c
    refine j_aload_n (pc' := 11) hκ 0 rfl rfl dX10_dark_10 rfl ?_
    refine jg_11_11 (pc' := 14) hκ (mi inlX10) (fl_in hκ (mc wm_7_19)) dX10_dark_11 rfl ?_
    refine j_iload_n (pc' := 15) hκ 1 rfl rfl dX10_dark_14 rfl ?_
    refine jm_iald (pc' := 16) hκ (ah_56 g) h.1 dX10_dark_15 rfl ?_
    replace h := h.2
    refine j_iconst (pc' := 17) (v := 3) hκ (by decide) dX10_dark_16 rfl ?_
    refine j_icmp_ge (tgt := 23) (pc' := 20) hκ dX10_dark_17 (by decide) rfl (fun c => ?_) (fun c => ?_)
    · replace h := h.1 c
      refine j_aload_n (pc' := 24) hκ 0 rfl rfl dX10_dark_23 rfl ?_
      refine jg_11_13 (pc' := 27) hκ (mi inlX10) (fl_in hκ (mc wm_7_21)) dX10_dark_24 rfl ?_
      refine j_iload_n (pc' := 28) hκ 1 rfl rfl dX10_dark_27 rfl ?_
      refine jm_zald (pc' := 29) hκ (ah_58 g) h.1 dX10_dark_28 rfl ?_
      replace h := h.2
      refine j_iload_n (pc' := 30) hκ 2 rfl rfl dX10_dark_29 rfl ?_
      refine j_icmp_ne (tgt := 35) (pc' := 33) hκ dX10_dark_30 (by decide) rfl (fun c => ?_) (fun c => ?_)
      · replace h := h.1 c
        refine j_aload_n (pc' := 36) hκ 0 rfl rfl dX10_dark_35 rfl ?_
        refine jg_11_13 (pc' := 39) hκ (mi inlX10) (fl_in hκ (mc wm_7_21)) dX10_dark_36 rfl ?_
        refine j_iload_n (pc' := 40) hκ 1 rfl rfl dX10_dark_39 rfl ?_
        refine j_iload_n (pc' := 41) hκ 2 rfl rfl dX10_dark_40 rfl ?_
        refine jm_zast (pc' := 42) hκ (ah_58 g) h.1 dX10_dark_41 rfl ?_
        replace h := h.2
        refine j_nmM (fun M3 eM3 => ?_)
        replace h := h M3 eM3
        refine j_aload_n (pc' := 43) hκ 0 rfl rfl dX10_dark_42 rfl ?_
        refine j_iconst (pc' := 44) (v := 0) hκ (by decide) dX10_dark_43 rfl ?_
        refine jp_11_15 (pc' := 47) hκ (mi inlX10) (fl_in hκ (mc wm_10_8)) dX10_dark_44 rfl ?_
        refine j_nmM (fun M4 eM4 => ?_)
        replace h := h M4 eM4
        refine j_iconst (pc' := 48) (v := 1) hκ (by decide) dX10_dark_47 rfl ?_
        exact hR _ _ _ _ dX10_dark_48 h
      · replace h := h.2 c
        refine j_iconst (pc' := 34) (v := 0) hκ (by decide) dX10_dark_33 rfl ?_
        exact hR _ _ _ _ dX10_dark_34 h
    · replace h := h.2 c
      refine j_bipush (pc' := 22) (v := (-5)) hκ (by decide) dX10_dark_20 rfl ?_
      exact hR _ _ _ _ dX10_dark_22 h
  · replace h := h.2 c
    refine j_iconst (pc' := 9) (v := (-1)) hκ (by decide) dX10_dark_8 rfl ?_
    exact hR _ _ _ _ dX10_dark_9 h
theorem c_m_dark {g : Gx} (hg : Dg g) {X M : ST} {p1 : Int32} {p2 : Int32} {post : Int32 → ST → Prop} (h : wp_m_dark M p1 p2 post) (l : Launch) : Met l yX10_dark wq_X10_dark rm_m_dark (va_Pc [.ref (g.2.1 11), .int p1, .int p2] (PU g X M)) (va_Qi post (fun Y t => va_P g.1 vwCl (ww g X Y) t.heap) (wA g)) 0 0 (wA g) :=
  met_mi hg (by decide) rfl [.ref (g.2.1 11), .int p1, .int p2] rfl (Nat.le_of_ble_eq_true rfl) (fun κ hκ hR => lb_m_dark hκ hR h) l
abbrev rm_m_between : Room := { frames := 0, cells := 0, slots := 0, locals := 0 }
def wp_m_between (M : ST) (p1 : Int32) (p2 : Int32) (post : Int32 → ST → Prop) : Prop :=
  vp_in p1 12 ∧ (vp_in p2 12 ∧ (vp_in ((40 * (m_crossing M p1.toNatClampNeg)) + (m_crossing M p2.toNatClampNeg)) 1600 ∧ (post (m_ways M ((40 * (m_crossing M p1.toNatClampNeg)) + (m_crossing M p2.toNatClampNeg)).toNatClampNeg) M)))
set_option maxHeartbeats 4000000 in
set_option maxRecDepth 100000 in
theorem lb_m_between {κ : Cx} {g : Gx} {X : ST} (hκ : CF κ g RX10 cX10_between wq_X10_between 3 rm_m_between) {post : Int32 → ST → Prop} (hR : RtmI κ g 3 cX10_between X post) {M : ST} {p1 : Int32} {p2 : Int32} (h : wp_m_between M p1 p2 post) : Jw κ g 3 X M [(0, .ref (g.2.1 11)), (1, .int p1), (2, .int p2)] 0 [] := by
  unfold wp_m_between at h
  refine j_aload_n (pc' := 1) hκ 0 rfl rfl dX10_between_0 rfl ?_
  refine jg_11_8 (pc' := 4) hκ (mi inlX10) (fl_in hκ (mc wm_7_17)) dX10_between_1 rfl ?_
  refine j_bipush (pc' := 6) (v := 40) hκ (by decide) dX10_between_4 rfl ?_
  refine j_aload_n (pc' := 7) hκ 0 rfl rfl dX10_between_6 rfl ?_
  refine jg_11_10 (pc' := 10) hκ (mi inlX10) (fl_in hκ (mc wm_7_18)) dX10_between_7 rfl ?_
  refine j_iload_n (pc' := 11) hκ 1 rfl rfl dX10_between_10 rfl ?_
  refine jm_iald (pc' := 12) hκ (ah_55 g) h.1 dX10_between_11 rfl ?_
  replace h := h.2
  refine j_imul (pc' := 13) hκ dX10_between_12 rfl ?_
  refine j_aload_n (pc' := 14) hκ 0 rfl rfl dX10_between_13 rfl ?_
  refine jg_11_10 (pc' := 17) hκ (mi inlX10) (fl_in hκ (mc wm_7_18)) dX10_between_14 rfl ?_
  refine j_iload_n (pc' := 18) hκ 2 rfl rfl dX10_between_17 rfl ?_
  refine jm_iald (pc' := 19) hκ (ah_55 g) h.1 dX10_between_18 rfl ?_
  replace h := h.2
  refine j_iadd (pc' := 20) hκ dX10_between_19 rfl ?_
  refine jm_iald (pc' := 21) hκ (ah_54 g) h.1 dX10_between_20 rfl ?_
  replace h := h.2
  exact hR _ _ _ _ dX10_between_21 h
theorem c_m_between {g : Gx} (hg : Dg g) {X M : ST} {p1 : Int32} {p2 : Int32} {post : Int32 → ST → Prop} (h : wp_m_between M p1 p2 post) (l : Launch) : Met l yX10_between wq_X10_between rm_m_between (va_Pc [.ref (g.2.1 11), .int p1, .int p2] (PU g X M)) (va_Qi post (fun Y t => va_P g.1 vwCl (ww g X Y) t.heap) (wA g)) 0 0 (wA g) :=
  met_mi hg (by decide) rfl [.ref (g.2.1 11), .int p1, .int p2] rfl (Nat.le_of_ble_eq_true rfl) (fun κ hκ hR => lb_m_between hκ hR h) l
theorem wm_19_21 : Cond.methodLink RX10 134 yX10_between ∈ wAll := inr_19 (List.mem_of_getElem? (i := 21) rfl)
theorem wm_19_22 : Cond.instanceMethod yX10_between ∈ wAll := inr_19 (List.mem_of_getElem? (i := 22) rfl)
theorem wm_19_23 : Cond.selects RX10 yX10_between yX10_between ∈ wAll := inr_19 (List.mem_of_getElem? (i := 23) rfl)
theorem wm_20_0 : Cond.code yX10_between cX10_between 3 (some .int) ∈ wAll := inr_20 (List.mem_of_getElem? (i := 0) rfl)
theorem hqV_X10_between : yX10_between.cls = RX10 ∧ yX10_between.cls ≠ "java/lang/invoke/MethodHandle" ∧ yX10_between.cls ≠ "java/lang/invoke/VarHandle" ∧ (parseMethodDescriptor yX10_between.desc).map (fun d => d.parameters.length) = some 2 := by decide +kernel
abbrev rm_m_twinOf : Room := { frames := 1, cells := 0, slots := 0, locals := 22 }
def wp_m_twinOf_21_s (K82 : ST → Int32 → Prop) (post : Int32 → ST → Prop) (rec : ST → Int32 → Int32 → Int32 → Prop) (M : ST) (l1 : Int32) (l2 : Int32) (l3 : Int32) : Prop :=
  ((m_lamps M) ≤ l3 → (K82 M l2)) ∧ (¬ (m_lamps M) ≤ l3 → (vp_in l1 12 ∧ ((¬ (m_kind M l1.toNatClampNeg) = 2 → (K82 M l2)) ∧ ((m_kind M l1.toNatClampNeg) = 2 → ((l3 = l1 → (rec M l1 l2 (l3 + 1))) ∧ (¬ l3 = l1 → (wp_m_between M l1 l3 (fun r2 M1 => (r2 = 1000000000 → (rec M1 l1 l2 (l3 + 1))) ∧ (¬ r2 = 1000000000 → ((l2 < 0 → (rec M1 l1 l3 (l3 + 1))) ∧ (¬ l2 < 0 → (wp_m_between M1 l1 l3 (fun r4 M3 => wp_m_between M3 l1 l2 (fun r6 M5 => (r6 ≤ r4 → (rec M5 l1 l2 (l3 + 1))) ∧ (¬ r6 ≤ r4 → (rec M5 l1 l3 (l3 + 1)))))))))))))))))
def wp_m_twinOf_21 (K82 : ST → Int32 → Prop) (post : Int32 → ST → Prop) : Nat → ST → Int32 → Int32 → Int32 → Prop
  | 0 => fun _ _ _ _ => False
  | n + 1 => wp_m_twinOf_21_s K82 post (wp_m_twinOf_21 K82 post n)
set_option maxHeartbeats 4000000 in
set_option maxRecDepth 100000 in
theorem lb_m_twinOf_21 {κ : Cx} {g : Gx} {X : ST} (hκ : CF κ g RX10 cX10_twinOf wq_X10_twinOf 4 rm_m_twinOf) {post : Int32 → ST → Prop} (hR : RtmI κ g 4 cX10_twinOf X post) {K82 : ST → Int32 → Prop} (hK82 : ∀ (M : ST) (l2 : Int32), K82 M l2 → Jw κ g 4 X M [(2, .int l2)] 82 []) : ∀ (n : Nat) (M : ST) (l1 : Int32) (l2 : Int32) (l3 : Int32), wp_m_twinOf_21 K82 post n M l1 l2 l3 → Jw κ g 4 X M [(0, .ref (g.2.1 11)), (1, .int l1), (2, .int l2), (3, .int l3)] 21 [] := by
  intro n
  induction n with
  | zero =>
    intro M l1 l2 l3  h
    exact h.elim
  | succ n ih =>
    intro M l1 l2 l3  h
    have h : wp_m_twinOf_21_s K82 post (wp_m_twinOf_21 K82 post n) M l1 l2 l3 := h
    unfold wp_m_twinOf_21_s at h
    refine j_iload_n (pc' := 22) hκ 3 rfl rfl dX10_twinOf_21 rfl ?_
    refine j_aload_n (pc' := 23) hκ 0 rfl rfl dX10_twinOf_22 rfl ?_
    refine jg_11_9 (pc' := 26) hκ (mi inlX10) (fl_in hκ (mc wm_17_13)) dX10_twinOf_23 rfl ?_
    refine j_icmp_ge (tgt := 82) (pc' := 29) hκ dX10_twinOf_26 (by decide) rfl (fun c => ?_) (fun c => ?_)
    · replace h := h.1 c
      refine j_sub [2] rfl ?_
      exact hK82 _ _  h
    · replace h := h.2 c
      refine j_aload_n (pc' := 30) hκ 0 rfl rfl dX10_twinOf_29 rfl ?_
      refine jg_11_11 (pc' := 33) hκ (mi inlX10) (fl_in hκ (mc wm_7_19)) dX10_twinOf_30 rfl ?_
      refine j_iload_n (pc' := 34) hκ 1 rfl rfl dX10_twinOf_33 rfl ?_
      refine jm_iald (pc' := 35) hκ (ah_56 g) h.1 dX10_twinOf_34 rfl ?_
      replace h := h.2
      refine j_iconst (pc' := 36) (v := 2) hκ (by decide) dX10_twinOf_35 rfl ?_
      refine j_icmp_ne (tgt := 82) (pc' := 39) hκ dX10_twinOf_36 (by decide) rfl (fun c => ?_) (fun c => ?_)
      · replace h := h.1 c
        refine j_sub [2] rfl ?_
        exact hK82 _ _  h
      · replace h := h.2 c
        refine j_iload_n (pc' := 40) hκ 3 rfl rfl dX10_twinOf_39 rfl ?_
        refine j_iload_n (pc' := 41) hκ 1 rfl rfl dX10_twinOf_40 rfl ?_
        refine j_icmp_eq (tgt := 76) (pc' := 44) hκ dX10_twinOf_41 (by decide) rfl (fun c => ?_) (fun c => ?_)
        · replace h := h.1 c
          refine j_iinc (pc' := 79) (v := l3 + 1) (lv' := [(3, .int (l3 + 1)), (0, .ref (g.2.1 11)), (1, .int l1), (2, .int l2)]) hκ 3 rfl rfl (Nat.le_of_ble_eq_true rfl) rfl dX10_twinOf_76 rfl ?_
          refine j_goto (pc' := 21) hκ (by decide) dX10_twinOf_79 ?_
          refine j_sub [1, 2, 3, 0] rfl ?_
          exact ih _ _ _ _  h
        · replace h := h.2 c
          refine j_aload_n (pc' := 45) hκ 0 rfl rfl dX10_twinOf_44 rfl ?_
          refine j_iload_n (pc' := 46) hκ 1 rfl rfl dX10_twinOf_45 rfl ?_
          refine j_iload_n (pc' := 47) hκ 3 rfl rfl dX10_twinOf_46 rfl ?_
          refine jm_callVi (pc' := 50) hκ (c_m_between (dg hκ) h) rfl rfl rfl (gV wm_19_21 wm_19_22 wm_19_23 wm_1_5 wm_20_0) hqV_X10_between ⟨Nat.le_of_ble_eq_true rfl, Nat.le_of_ble_eq_true rfl⟩ (wg_11 g _ _) rfl rfl rfl (Nat.le_of_ble_eq_true rfl) dX10_twinOf_47 rfl (fun r2 M1 h => ?_)
          refine j_ldc (pc' := 52) hκ (mc wm_8_19) dX10_twinOf_50 rfl ?_
          refine j_icmp_eq (tgt := 76) (pc' := 55) hκ dX10_twinOf_52 (by decide) rfl (fun c => ?_) (fun c => ?_)
          · replace h := h.1 c
            refine j_iinc (pc' := 79) (v := l3 + 1) (lv' := [(3, .int (l3 + 1)), (0, .ref (g.2.1 11)), (1, .int l1), (2, .int l2)]) hκ 3 rfl rfl (Nat.le_of_ble_eq_true rfl) rfl dX10_twinOf_76 rfl ?_
            refine j_goto (pc' := 21) hκ (by decide) dX10_twinOf_79 ?_
            refine j_sub [1, 2, 3, 0] rfl ?_
            exact ih _ _ _ _  h
          · replace h := h.2 c
            refine j_iload_n (pc' := 56) hκ 2 rfl rfl dX10_twinOf_55 rfl ?_
            refine j_if_lt (tgt := 74) (pc' := 59) hκ dX10_twinOf_56 (by decide) rfl (fun c => ?_) (fun c => ?_)
            · replace h := h.1 c
              refine j_iload_n (pc' := 75) hκ 3 rfl rfl dX10_twinOf_74 rfl ?_
              refine j_istore_n (pc' := 76) (lv' := [(2, .int l3), (0, .ref (g.2.1 11)), (1, .int l1), (3, .int l3)]) hκ (Nat.le_of_ble_eq_true rfl) rfl rfl dX10_twinOf_75 rfl ?_
              refine j_iinc (pc' := 79) (v := l3 + 1) (lv' := [(3, .int (l3 + 1)), (2, .int l3), (0, .ref (g.2.1 11)), (1, .int l1)]) hκ 3 rfl rfl (Nat.le_of_ble_eq_true rfl) rfl dX10_twinOf_76 rfl ?_
              refine j_goto (pc' := 21) hκ (by decide) dX10_twinOf_79 ?_
              refine j_sub [2, 3, 1, 0] rfl ?_
              exact ih _ _ _ _  h
            · replace h := h.2 c
              refine j_aload_n (pc' := 60) hκ 0 rfl rfl dX10_twinOf_59 rfl ?_
              refine j_iload_n (pc' := 61) hκ 1 rfl rfl dX10_twinOf_60 rfl ?_
              refine j_iload_n (pc' := 62) hκ 3 rfl rfl dX10_twinOf_61 rfl ?_
              refine jm_callVi (pc' := 65) hκ (c_m_between (dg hκ) h) rfl rfl rfl (gV wm_19_21 wm_19_22 wm_19_23 wm_1_5 wm_20_0) hqV_X10_between ⟨Nat.le_of_ble_eq_true rfl, Nat.le_of_ble_eq_true rfl⟩ (wg_11 g _ _) rfl rfl rfl (Nat.le_of_ble_eq_true rfl) dX10_twinOf_62 rfl (fun r4 M3 h => ?_)
              refine j_aload_n (pc' := 66) hκ 0 rfl rfl dX10_twinOf_65 rfl ?_
              refine j_iload_n (pc' := 67) hκ 1 rfl rfl dX10_twinOf_66 rfl ?_
              refine j_iload_n (pc' := 68) hκ 2 rfl rfl dX10_twinOf_67 rfl ?_
              refine jm_callVi (pc' := 71) hκ (c_m_between (dg hκ) h) rfl rfl rfl (gV wm_19_21 wm_19_22 wm_19_23 wm_1_5 wm_20_0) hqV_X10_between ⟨Nat.le_of_ble_eq_true rfl, Nat.le_of_ble_eq_true rfl⟩ (wg_11 g _ _) rfl rfl rfl (Nat.le_of_ble_eq_true rfl) dX10_twinOf_68 rfl (fun r6 M5 h => ?_)
              refine j_icmp_ge (tgt := 76) (pc' := 74) hκ dX10_twinOf_71 (by decide) rfl (fun c => ?_) (fun c => ?_)
              · replace h := h.1 c
                refine j_iinc (pc' := 79) (v := l3 + 1) (lv' := [(3, .int (l3 + 1)), (0, .ref (g.2.1 11)), (1, .int l1), (2, .int l2)]) hκ 3 rfl rfl (Nat.le_of_ble_eq_true rfl) rfl dX10_twinOf_76 rfl ?_
                refine j_goto (pc' := 21) hκ (by decide) dX10_twinOf_79 ?_
                refine j_sub [1, 2, 3, 0] rfl ?_
                exact ih _ _ _ _  h
              · replace h := h.2 c
                refine j_iload_n (pc' := 75) hκ 3 rfl rfl dX10_twinOf_74 rfl ?_
                refine j_istore_n (pc' := 76) (lv' := [(2, .int l3), (0, .ref (g.2.1 11)), (1, .int l1), (3, .int l3)]) hκ (Nat.le_of_ble_eq_true rfl) rfl rfl dX10_twinOf_75 rfl ?_
                refine j_iinc (pc' := 79) (v := l3 + 1) (lv' := [(3, .int (l3 + 1)), (2, .int l3), (0, .ref (g.2.1 11)), (1, .int l1)]) hκ 3 rfl rfl (Nat.le_of_ble_eq_true rfl) rfl dX10_twinOf_76 rfl ?_
                refine j_goto (pc' := 21) hκ (by decide) dX10_twinOf_79 ?_
                refine j_sub [2, 3, 1, 0] rfl ?_
                exact ih _ _ _ _  h
def wp_m_twinOf (M : ST) (p1 : Int32) (post : Int32 → ST → Prop) : Prop :=
  vp_in p1 12 ∧ ((¬ (m_kind M p1.toNatClampNeg) = 1 → (∃ n, wp_m_twinOf_21 (fun M7 v8 => post v8 M7) post n M p1 (-1) 0)) ∧ ((m_kind M p1.toNatClampNeg) = 1 → (vp_in p1 12 ∧ (post (m_other M p1.toNatClampNeg) M))))
set_option maxHeartbeats 4000000 in
set_option maxRecDepth 100000 in
theorem lb_m_twinOf {κ : Cx} {g : Gx} {X : ST} (hκ : CF κ g RX10 cX10_twinOf wq_X10_twinOf 4 rm_m_twinOf) {post : Int32 → ST → Prop} (hR : RtmI κ g 4 cX10_twinOf X post) {M : ST} {p1 : Int32} (h : wp_m_twinOf M p1 post) : Jw κ g 4 X M [(0, .ref (g.2.1 11)), (1, .int p1)] 0 [] := by
  unfold wp_m_twinOf at h
  refine j_aload_n (pc' := 1) hκ 0 rfl rfl dX10_twinOf_0 rfl ?_
  refine jg_11_11 (pc' := 4) hκ (mi inlX10) (fl_in hκ (mc wm_7_19)) dX10_twinOf_1 rfl ?_
  refine j_iload_n (pc' := 5) hκ 1 rfl rfl dX10_twinOf_4 rfl ?_
  refine jm_iald (pc' := 6) hκ (ah_56 g) h.1 dX10_twinOf_5 rfl ?_
  replace h := h.2
  refine j_iconst (pc' := 7) (v := 1) hκ (by decide) dX10_twinOf_6 rfl ?_
  refine j_icmp_ne (tgt := 17) (pc' := 10) hκ dX10_twinOf_7 (by decide) rfl (fun c => ?_) (fun c => ?_)
  · replace h := h.1 c
    refine j_iconst (pc' := 18) (v := (-1)) hκ (by decide) dX10_twinOf_17 rfl ?_
    refine j_istore_n (pc' := 19) (lv' := [(2, .int (-1)), (0, .ref (g.2.1 11)), (1, .int p1)]) hκ (Nat.le_of_ble_eq_true rfl) rfl rfl dX10_twinOf_18 rfl ?_
    refine j_iconst (pc' := 20) (v := 0) hκ (by decide) dX10_twinOf_19 rfl ?_
    refine j_istore_n (pc' := 21) (lv' := [(3, .int 0), (2, .int (-1)), (0, .ref (g.2.1 11)), (1, .int p1)]) hκ (Nat.le_of_ble_eq_true rfl) rfl rfl dX10_twinOf_20 rfl ?_
    obtain ⟨n, h⟩ := h
    refine j_sub [2, 3, 1, 0] rfl ?_
    refine lb_m_twinOf_21 hκ hR ?_ n _ _ _ _  h
    intro M7 v8  h
    refine j_iload_n (pc' := 83) hκ 0 rfl rfl dX10_twinOf_82 rfl ?_
    exact hR _ _ _ _ dX10_twinOf_83 h
  · replace h := h.2 c
    refine j_aload_n (pc' := 11) hκ 0 rfl rfl dX10_twinOf_10 rfl ?_
    refine jg_11_12 (pc' := 14) hκ (mi inlX10) (fl_in hκ (mc wm_7_20)) dX10_twinOf_11 rfl ?_
    refine j_iload_n (pc' := 15) hκ 1 rfl rfl dX10_twinOf_14 rfl ?_
    refine jm_iald (pc' := 16) hκ (ah_57 g) h.1 dX10_twinOf_15 rfl ?_
    replace h := h.2
    exact hR _ _ _ _ dX10_twinOf_16 h
theorem c_m_twinOf {g : Gx} (hg : Dg g) {X M : ST} {p1 : Int32} {post : Int32 → ST → Prop} (h : wp_m_twinOf M p1 post) (l : Launch) : Met l yX10_twinOf wq_X10_twinOf rm_m_twinOf (va_Pc [.ref (g.2.1 11), .int p1] (PU g X M)) (va_Qi post (fun Y t => va_P g.1 vwCl (ww g X Y) t.heap) (wA g)) 0 0 (wA g) :=
  met_mi hg (by decide) rfl [.ref (g.2.1 11), .int p1] rfl (Nat.le_of_ble_eq_true rfl) (fun κ hκ hR => lb_m_twinOf hκ hR h) l
theorem wm_19_17 : Cond.methodLink RX10 137 yX10_twinOf ∈ wAll := inr_19 (List.mem_of_getElem? (i := 17) rfl)
theorem wm_19_18 : Cond.instanceMethod yX10_twinOf ∈ wAll := inr_19 (List.mem_of_getElem? (i := 18) rfl)
theorem wm_19_19 : Cond.selects RX10 yX10_twinOf yX10_twinOf ∈ wAll := inr_19 (List.mem_of_getElem? (i := 19) rfl)
theorem wm_19_20 : Cond.code yX10_twinOf cX10_twinOf 4 (some .int) ∈ wAll := inr_19 (List.mem_of_getElem? (i := 20) rfl)
theorem hqV_X10_twinOf : yX10_twinOf.cls = RX10 ∧ yX10_twinOf.cls ≠ "java/lang/invoke/MethodHandle" ∧ yX10_twinOf.cls ≠ "java/lang/invoke/VarHandle" ∧ (parseMethodDescriptor yX10_twinOf.desc).map (fun d => d.parameters.length) = some 1 := by decide +kernel
abbrev rm_m_twin : Room := { frames := 2, cells := 0, slots := 0, locals := 45 }
def wp_m_twin (M : ST) (p1 : Int32) (post : Int32 → ST → Prop) : Prop :=
  wp_m_isLamp M p1 (fun r2 M1 => (¬ r2 = 0 → (vp_in p1 12 ∧ (((m_kind M1 p1.toNatClampNeg) = 1 → (wp_m_twinOf M1 p1 (fun r4 M3 => post r4 M3))) ∧ (¬ (m_kind M1 p1.toNatClampNeg) = 1 → (vp_in p1 12 ∧ (((m_kind M1 p1.toNatClampNeg) = 2 → (wp_m_twinOf M1 p1 (fun r6 M5 => post r6 M5))) ∧ (¬ (m_kind M1 p1.toNatClampNeg) = 2 → (post (-5) M1)))))))) ∧ (r2 = 0 → (post (-2) M1)))
set_option maxHeartbeats 4000000 in
set_option maxRecDepth 100000 in
theorem lb_m_twin {κ : Cx} {g : Gx} {X : ST} (hκ : CF κ g RX10 cX10_twin wq_X10_twin 2 rm_m_twin) {post : Int32 → ST → Prop} (hR : RtmI κ g 2 cX10_twin X post) {M : ST} {p1 : Int32} (h : wp_m_twin M p1 post) : Jw κ g 2 X M [(0, .ref (g.2.1 11)), (1, .int p1)] 0 [] := by
  unfold wp_m_twin at h
  refine j_aload_n (pc' := 1) hκ 0 rfl rfl dX10_twin_0 rfl ?_
  refine j_iload_n (pc' := 2) hκ 1 rfl rfl dX10_twin_1 rfl ?_
  refine jm_callVi (pc' := 5) hκ (c_m_isLamp (dg hκ) h) rfl rfl rfl (gV wm_17_14 wm_17_15 wm_17_16 wm_1_5 wm_17_17) hqV_X10_isLamp ⟨Nat.le_of_ble_eq_true rfl, Nat.le_of_ble_eq_true rfl⟩ (wg_11 g _ _) rfl rfl rfl (Nat.le_of_ble_eq_true rfl) dX10_twin_2 rfl (fun r2 M1 h => ?_)
  refine j_if_ne (tgt := 11) (pc' := 8) hκ dX10_twin_5 (by decide) rfl (fun c => ?_) (fun c => ?_)
  · replace h := h.1 c
    refine j_aload_n (pc' := 12) hκ 0 rfl rfl dX10_twin_11 rfl ?_
    refine jg_11_11 (pc' := 15) hκ (mi inlX10) (fl_in hκ (mc wm_7_19)) dX10_twin_12 rfl ?_
    refine j_iload_n (pc' := 16) hκ 1 rfl rfl dX10_twin_15 rfl ?_
    refine jm_iald (pc' := 17) hκ (ah_56 g) h.1 dX10_twin_16 rfl ?_
    replace h := h.2
    refine j_iconst (pc' := 18) (v := 1) hκ (by decide) dX10_twin_17 rfl ?_
    refine j_icmp_eq (tgt := 36) (pc' := 21) hκ dX10_twin_18 (by decide) rfl (fun c => ?_) (fun c => ?_)
    · replace h := h.1 c
      refine j_aload_n (pc' := 37) hκ 0 rfl rfl dX10_twin_36 rfl ?_
      refine j_iload_n (pc' := 38) hκ 1 rfl rfl dX10_twin_37 rfl ?_
      refine jm_callVi (pc' := 41) hκ (c_m_twinOf (dg hκ) h) rfl rfl rfl (gV wm_19_17 wm_19_18 wm_19_19 wm_1_5 wm_19_20) hqV_X10_twinOf ⟨Nat.le_of_ble_eq_true rfl, Nat.le_of_ble_eq_true rfl⟩ (wg_11 g _ _) rfl rfl rfl (Nat.le_of_ble_eq_true rfl) dX10_twin_38 rfl (fun r4 M3 h => ?_)
      exact hR _ _ _ _ dX10_twin_41 h
    · replace h := h.2 c
      refine j_aload_n (pc' := 22) hκ 0 rfl rfl dX10_twin_21 rfl ?_
      refine jg_11_11 (pc' := 25) hκ (mi inlX10) (fl_in hκ (mc wm_7_19)) dX10_twin_22 rfl ?_
      refine j_iload_n (pc' := 26) hκ 1 rfl rfl dX10_twin_25 rfl ?_
      refine jm_iald (pc' := 27) hκ (ah_56 g) h.1 dX10_twin_26 rfl ?_
      replace h := h.2
      refine j_iconst (pc' := 28) (v := 2) hκ (by decide) dX10_twin_27 rfl ?_
      refine j_icmp_eq (tgt := 36) (pc' := 31) hκ dX10_twin_28 (by decide) rfl (fun c => ?_) (fun c => ?_)
      · replace h := h.1 c
        refine j_aload_n (pc' := 37) hκ 0 rfl rfl dX10_twin_36 rfl ?_
        refine j_iload_n (pc' := 38) hκ 1 rfl rfl dX10_twin_37 rfl ?_
        refine jm_callVi (pc' := 41) hκ (c_m_twinOf (dg hκ) h) rfl rfl rfl (gV wm_19_17 wm_19_18 wm_19_19 wm_1_5 wm_19_20) hqV_X10_twinOf ⟨Nat.le_of_ble_eq_true rfl, Nat.le_of_ble_eq_true rfl⟩ (wg_11 g _ _) rfl rfl rfl (Nat.le_of_ble_eq_true rfl) dX10_twin_38 rfl (fun r6 M5 h => ?_)
        exact hR _ _ _ _ dX10_twin_41 h
      · replace h := h.2 c
        refine j_bipush (pc' := 33) (v := (-5)) hκ (by decide) dX10_twin_31 rfl ?_
        refine j_goto (pc' := 41) hκ (by decide) dX10_twin_33 ?_
        exact hR _ _ _ _ dX10_twin_41 h
  · replace h := h.2 c
    refine j_bipush (pc' := 10) (v := (-2)) hκ (by decide) dX10_twin_8 rfl ?_
    exact hR _ _ _ _ dX10_twin_10 h
theorem c_m_twin {g : Gx} (hg : Dg g) {X M : ST} {p1 : Int32} {post : Int32 → ST → Prop} (h : wp_m_twin M p1 post) (l : Launch) : Met l yX10_twin wq_X10_twin rm_m_twin (va_Pc [.ref (g.2.1 11), .int p1] (PU g X M)) (va_Qi post (fun Y t => va_P g.1 vwCl (ww g X Y) t.heap) (wA g)) 0 0 (wA g) :=
  met_mi hg (by decide) rfl [.ref (g.2.1 11), .int p1] rfl (Nat.le_of_ble_eq_true rfl) (fun κ hκ hR => lb_m_twin hκ hR h) l
theorem wm_20_14 : Cond.constant RX10 141 (-2147483648) ∈ wAll := inr_20 (List.mem_of_getElem? (i := 14) rfl)
abbrev rm_m_of : Room := { frames := 1, cells := 0, slots := 0, locals := 21 }
def wp_m_of (M : ST) (p1 : Int32) (p2 : Int32) (post : Int32 → ST → Prop) : Prop :=
  wp_m_isLamp M p1 (fun r2 M1 => (r2 = 0 → (post (-2147483648) M1)) ∧ (¬ r2 = 0 → ((p2 < 0 → (post (-2147483648) M1)) ∧ (¬ p2 < 0 → ((p2 ≤ 4 → ((¬ p2 = 0 → ((¬ p2 = 1 → ((¬ p2 = 2 → ((¬ p2 = 3 → (vp_in p1 12 ∧ (post (m_price M1 p1.toNatClampNeg) M1))) ∧ (p2 = 3 → (vp_in p1 12 ∧ (((m_isOut M1 p1.toNatClampNeg) = 0 → (post 0 M1)) ∧ (¬ (m_isOut M1 p1.toNatClampNeg) = 0 → (post 1 M1))))))) ∧ (p2 = 2 → (vp_in p1 12 ∧ ((¬ (m_kind M1 p1.toNatClampNeg) = 4 → (post 1 M1)) ∧ ((m_kind M1 p1.toNatClampNeg) = 4 → (post 2 M1))))))) ∧ (p2 = 1 → (vp_in p1 12 ∧ (post (m_kind M1 p1.toNatClampNeg) M1))))) ∧ (p2 = 0 → (vp_in p1 12 ∧ (post (m_crossing M1 p1.toNatClampNeg) M1))))) ∧ (¬ p2 ≤ 4 → (post (-2147483648) M1)))))))
set_option maxHeartbeats 4000000 in
set_option maxRecDepth 100000 in
theorem lb_m_of {κ : Cx} {g : Gx} {X : ST} (hκ : CF κ g RX10 cX10_of wq_X10_of 3 rm_m_of) {post : Int32 → ST → Prop} (hR : RtmI κ g 3 cX10_of X post) {M : ST} {p1 : Int32} {p2 : Int32} (h : wp_m_of M p1 p2 post) : Jw κ g 3 X M [(0, .ref (g.2.1 11)), (1, .int p1), (2, .int p2)] 0 [] := by
  unfold wp_m_of at h
  refine j_aload_n (pc' := 1) hκ 0 rfl rfl dX10_of_0 rfl ?_
  refine j_iload_n (pc' := 2) hκ 1 rfl rfl dX10_of_1 rfl ?_
  refine jm_callVi (pc' := 5) hκ (c_m_isLamp (dg hκ) h) rfl rfl rfl (gV wm_17_14 wm_17_15 wm_17_16 wm_1_5 wm_17_17) hqV_X10_isLamp ⟨Nat.le_of_ble_eq_true rfl, Nat.le_of_ble_eq_true rfl⟩ (wg_11 g _ _) rfl rfl rfl (Nat.le_of_ble_eq_true rfl) dX10_of_2 rfl (fun r2 M1 h => ?_)
  refine j_if_eq (tgt := 17) (pc' := 8) hκ dX10_of_5 (by decide) rfl (fun c => ?_) (fun c => ?_)
  · replace h := h.1 c
    refine j_ldc (pc' := 19) hκ (mc wm_20_14) dX10_of_17 rfl ?_
    exact hR _ _ _ _ dX10_of_19 h
  · replace h := h.2 c
    refine j_iload_n (pc' := 9) hκ 2 rfl rfl dX10_of_8 rfl ?_
    refine j_if_lt (tgt := 17) (pc' := 12) hκ dX10_of_9 (by decide) rfl (fun c => ?_) (fun c => ?_)
    · replace h := h.1 c
      refine j_ldc (pc' := 19) hκ (mc wm_20_14) dX10_of_17 rfl ?_
      exact hR _ _ _ _ dX10_of_19 h
    · replace h := h.2 c
      refine j_iload_n (pc' := 13) hκ 2 rfl rfl dX10_of_12 rfl ?_
      refine j_iconst (pc' := 14) (v := 4) hκ (by decide) dX10_of_13 rfl ?_
      refine j_icmp_le (tgt := 20) (pc' := 17) hκ dX10_of_14 (by decide) rfl (fun c => ?_) (fun c => ?_)
      · replace h := h.1 c
        refine j_iload_n (pc' := 21) hκ 2 rfl rfl dX10_of_20 rfl ?_
        refine j_if_ne (tgt := 33) (pc' := 24) hκ dX10_of_21 (by decide) rfl (fun c => ?_) (fun c => ?_)
        · replace h := h.1 c
          refine j_iload_n (pc' := 34) hκ 2 rfl rfl dX10_of_33 rfl ?_
          refine j_iconst (pc' := 35) (v := 1) hκ (by decide) dX10_of_34 rfl ?_
          refine j_icmp_ne (tgt := 47) (pc' := 38) hκ dX10_of_35 (by decide) rfl (fun c => ?_) (fun c => ?_)
          · replace h := h.1 c
            refine j_iload_n (pc' := 48) hκ 2 rfl rfl dX10_of_47 rfl ?_
            refine j_iconst (pc' := 49) (v := 2) hκ (by decide) dX10_of_48 rfl ?_
            refine j_icmp_ne (tgt := 70) (pc' := 52) hκ dX10_of_49 (by decide) rfl (fun c => ?_) (fun c => ?_)
            · replace h := h.1 c
              refine j_iload_n (pc' := 71) hκ 2 rfl rfl dX10_of_70 rfl ?_
              refine j_iconst (pc' := 72) (v := 3) hκ (by decide) dX10_of_71 rfl ?_
              refine j_icmp_ne (tgt := 92) (pc' := 75) hκ dX10_of_72 (by decide) rfl (fun c => ?_) (fun c => ?_)
              · replace h := h.1 c
                refine j_aload_n (pc' := 93) hκ 0 rfl rfl dX10_of_92 rfl ?_
                refine jg_11_14 (pc' := 96) hκ (mi inlX10) (fl_in hκ (mc wm_7_22)) dX10_of_93 rfl ?_
                refine j_iload_n (pc' := 97) hκ 1 rfl rfl dX10_of_96 rfl ?_
                refine jm_iald (pc' := 98) hκ (ah_59 g) h.1 dX10_of_97 rfl ?_
                replace h := h.2
                exact hR _ _ _ _ dX10_of_98 h
              · replace h := h.2 c
                refine j_aload_n (pc' := 76) hκ 0 rfl rfl dX10_of_75 rfl ?_
                refine jg_11_13 (pc' := 79) hκ (mi inlX10) (fl_in hκ (mc wm_7_21)) dX10_of_76 rfl ?_
                refine j_iload_n (pc' := 80) hκ 1 rfl rfl dX10_of_79 rfl ?_
                refine jm_zald (pc' := 81) hκ (ah_58 g) h.1 dX10_of_80 rfl ?_
                replace h := h.2
                refine j_if_eq (tgt := 88) (pc' := 84) hκ dX10_of_81 (by decide) rfl (fun c => ?_) (fun c => ?_)
                · replace h := h.1 c
                  refine j_iconst (pc' := 89) (v := 0) hκ (by decide) dX10_of_88 rfl ?_
                  refine j_goto (pc' := 98) hκ (by decide) dX10_of_89 ?_
                  exact hR _ _ _ _ dX10_of_98 h
                · replace h := h.2 c
                  refine j_iconst (pc' := 85) (v := 1) hκ (by decide) dX10_of_84 rfl ?_
                  refine j_goto (pc' := 98) hκ (by decide) dX10_of_85 ?_
                  exact hR _ _ _ _ dX10_of_98 h
            · replace h := h.2 c
              refine j_aload_n (pc' := 53) hκ 0 rfl rfl dX10_of_52 rfl ?_
              refine jg_11_11 (pc' := 56) hκ (mi inlX10) (fl_in hκ (mc wm_7_19)) dX10_of_53 rfl ?_
              refine j_iload_n (pc' := 57) hκ 1 rfl rfl dX10_of_56 rfl ?_
              refine jm_iald (pc' := 58) hκ (ah_56 g) h.1 dX10_of_57 rfl ?_
              replace h := h.2
              refine j_iconst (pc' := 59) (v := 4) hκ (by decide) dX10_of_58 rfl ?_
              refine j_icmp_ne (tgt := 66) (pc' := 62) hκ dX10_of_59 (by decide) rfl (fun c => ?_) (fun c => ?_)
              · replace h := h.1 c
                refine j_iconst (pc' := 67) (v := 1) hκ (by decide) dX10_of_66 rfl ?_
                refine j_goto (pc' := 98) hκ (by decide) dX10_of_67 ?_
                exact hR _ _ _ _ dX10_of_98 h
              · replace h := h.2 c
                refine j_iconst (pc' := 63) (v := 2) hκ (by decide) dX10_of_62 rfl ?_
                refine j_goto (pc' := 98) hκ (by decide) dX10_of_63 ?_
                exact hR _ _ _ _ dX10_of_98 h
          · replace h := h.2 c
            refine j_aload_n (pc' := 39) hκ 0 rfl rfl dX10_of_38 rfl ?_
            refine jg_11_11 (pc' := 42) hκ (mi inlX10) (fl_in hκ (mc wm_7_19)) dX10_of_39 rfl ?_
            refine j_iload_n (pc' := 43) hκ 1 rfl rfl dX10_of_42 rfl ?_
            refine jm_iald (pc' := 44) hκ (ah_56 g) h.1 dX10_of_43 rfl ?_
            replace h := h.2
            refine j_goto (pc' := 98) hκ (by decide) dX10_of_44 ?_
            exact hR _ _ _ _ dX10_of_98 h
        · replace h := h.2 c
          refine j_aload_n (pc' := 25) hκ 0 rfl rfl dX10_of_24 rfl ?_
          refine jg_11_10 (pc' := 28) hκ (mi inlX10) (fl_in hκ (mc wm_7_18)) dX10_of_25 rfl ?_
          refine j_iload_n (pc' := 29) hκ 1 rfl rfl dX10_of_28 rfl ?_
          refine jm_iald (pc' := 30) hκ (ah_55 g) h.1 dX10_of_29 rfl ?_
          replace h := h.2
          refine j_goto (pc' := 98) hκ (by decide) dX10_of_30 ?_
          exact hR _ _ _ _ dX10_of_98 h
      · replace h := h.2 c
        refine j_ldc (pc' := 19) hκ (mc wm_20_14) dX10_of_17 rfl ?_
        exact hR _ _ _ _ dX10_of_19 h
theorem c_m_of {g : Gx} (hg : Dg g) {X M : ST} {p1 : Int32} {p2 : Int32} {post : Int32 → ST → Prop} (h : wp_m_of M p1 p2 post) (l : Launch) : Met l yX10_of wq_X10_of rm_m_of (va_Pc [.ref (g.2.1 11), .int p1, .int p2] (PU g X M)) (va_Qi post (fun Y t => va_P g.1 vwCl (ww g X Y) t.heap) (wA g)) 0 0 (wA g) :=
  met_mi hg (by decide) rfl [.ref (g.2.1 11), .int p1, .int p2] rfl (Nat.le_of_ble_eq_true rfl) (fun κ hκ hR => lb_m_of hκ hR h) l
abbrev rm_m_lit : Room := { frames := 0, cells := 0, slots := 0, locals := 0 }
def wp_m_lit_4_s (K35 : ST → Int32 → Prop) (post : Int32 → ST → Prop) (rec : ST → Int32 → Int32 → Prop) (M : ST) (l1 : Int32) (l2 : Int32) : Prop :=
  ((m_lamps M) ≤ l2 → (K35 M l1)) ∧ (¬ (m_lamps M) ≤ l2 → (vp_in l2 12 ∧ (((m_isOut M l2.toNatClampNeg) = 0 → (∀ v1 : Int32, v1 = l1 + 1 → rec M v1 (l2 + 1))) ∧ (¬ (m_isOut M l2.toNatClampNeg) = 0 → (∀ v2 : Int32, v2 = l1 + 0 → rec M v2 (l2 + 1))))))
def wp_m_lit_4 (K35 : ST → Int32 → Prop) (post : Int32 → ST → Prop) : Nat → ST → Int32 → Int32 → Prop
  | 0 => fun _ _ _ => False
  | n + 1 => wp_m_lit_4_s K35 post (wp_m_lit_4 K35 post n)
set_option maxHeartbeats 4000000 in
set_option maxRecDepth 100000 in
theorem lb_m_lit_4 {κ : Cx} {g : Gx} {X : ST} (hκ : CF κ g RX10 cX10_lit wq_X10_lit 3 rm_m_lit) {post : Int32 → ST → Prop} (hR : RtmI κ g 3 cX10_lit X post) {K35 : ST → Int32 → Prop} (hK35 : ∀ (M : ST) (l1 : Int32), K35 M l1 → Jw κ g 3 X M [(1, .int l1)] 35 []) : ∀ (n : Nat) (M : ST) (l1 : Int32) (l2 : Int32), wp_m_lit_4 K35 post n M l1 l2 → Jw κ g 3 X M [(0, .ref (g.2.1 11)), (1, .int l1), (2, .int l2)] 4 [] := by
  intro n
  induction n with
  | zero =>
    intro M l1 l2  h
    exact h.elim
  | succ n ih =>
    intro M l1 l2  h
    have h : wp_m_lit_4_s K35 post (wp_m_lit_4 K35 post n) M l1 l2 := h
    unfold wp_m_lit_4_s at h
    refine j_iload_n (pc' := 5) hκ 2 rfl rfl dX10_lit_4 rfl ?_
    refine j_aload_n (pc' := 6) hκ 0 rfl rfl dX10_lit_5 rfl ?_
    refine jg_11_9 (pc' := 9) hκ (mi inlX10) (fl_in hκ (mc wm_17_13)) dX10_lit_6 rfl ?_
    refine j_icmp_ge (tgt := 35) (pc' := 12) hκ dX10_lit_9 (by decide) rfl (fun c => ?_) (fun c => ?_)
    · replace h := h.1 c
      refine j_sub [1] rfl ?_
      exact hK35 _ _  h
    · replace h := h.2 c
      refine j_iload_n (pc' := 13) hκ 1 rfl rfl dX10_lit_12 rfl ?_
      refine j_aload_n (pc' := 14) hκ 0 rfl rfl dX10_lit_13 rfl ?_
      refine jg_11_13 (pc' := 17) hκ (mi inlX10) (fl_in hκ (mc wm_7_21)) dX10_lit_14 rfl ?_
      refine j_iload_n (pc' := 18) hκ 2 rfl rfl dX10_lit_17 rfl ?_
      refine jm_zald (pc' := 19) hκ (ah_58 g) h.1 dX10_lit_18 rfl ?_
      replace h := h.2
      refine j_if_eq (tgt := 26) (pc' := 22) hκ dX10_lit_19 (by decide) rfl (fun c => ?_) (fun c => ?_)
      · replace h := h.1 c
        refine j_iconst (pc' := 27) (v := 1) hκ (by decide) dX10_lit_26 rfl ?_
        refine j_iadd (pc' := 28) hκ dX10_lit_27 rfl ?_
        refine j_topi (fun v1 ev1 => ?_)
        replace h := h v1 ev1
        refine j_istore_n (pc' := 29) (lv' := [(1, .int v1), (0, .ref (g.2.1 11)), (2, .int l2)]) hκ (Nat.le_of_ble_eq_true rfl) rfl rfl dX10_lit_28 rfl ?_
        refine j_iinc (pc' := 32) (v := l2 + 1) (lv' := [(2, .int (l2 + 1)), (1, .int v1), (0, .ref (g.2.1 11))]) hκ 2 rfl rfl (Nat.le_of_ble_eq_true rfl) rfl dX10_lit_29 rfl ?_
        refine j_goto (pc' := 4) hκ (by decide) dX10_lit_32 ?_
        refine j_sub [2, 1, 0] rfl ?_
        exact ih _ _ _  h
      · replace h := h.2 c
        refine j_iconst (pc' := 23) (v := 0) hκ (by decide) dX10_lit_22 rfl ?_
        refine j_goto (pc' := 27) hκ (by decide) dX10_lit_23 ?_
        refine j_iadd (pc' := 28) hκ dX10_lit_27 rfl ?_
        refine j_topi (fun v2 ev2 => ?_)
        replace h := h v2 ev2
        refine j_istore_n (pc' := 29) (lv' := [(1, .int v2), (0, .ref (g.2.1 11)), (2, .int l2)]) hκ (Nat.le_of_ble_eq_true rfl) rfl rfl dX10_lit_28 rfl ?_
        refine j_iinc (pc' := 32) (v := l2 + 1) (lv' := [(2, .int (l2 + 1)), (1, .int v2), (0, .ref (g.2.1 11))]) hκ 2 rfl rfl (Nat.le_of_ble_eq_true rfl) rfl dX10_lit_29 rfl ?_
        refine j_goto (pc' := 4) hκ (by decide) dX10_lit_32 ?_
        refine j_sub [2, 1, 0] rfl ?_
        exact ih _ _ _  h
def wp_m_lit (M : ST) (post : Int32 → ST → Prop) : Prop :=
  ∃ n, wp_m_lit_4 (fun M3 v4 => post v4 M3) post n M 0 0
set_option maxHeartbeats 4000000 in
set_option maxRecDepth 100000 in
theorem lb_m_lit {κ : Cx} {g : Gx} {X : ST} (hκ : CF κ g RX10 cX10_lit wq_X10_lit 3 rm_m_lit) {post : Int32 → ST → Prop} (hR : RtmI κ g 3 cX10_lit X post) {M : ST} (h : wp_m_lit M post) : Jw κ g 3 X M [(0, .ref (g.2.1 11))] 0 [] := by
  unfold wp_m_lit at h
  refine j_iconst (pc' := 1) (v := 0) hκ (by decide) dX10_lit_0 rfl ?_
  refine j_istore_n (pc' := 2) (lv' := [(1, .int 0), (0, .ref (g.2.1 11))]) hκ (Nat.le_of_ble_eq_true rfl) rfl rfl dX10_lit_1 rfl ?_
  refine j_iconst (pc' := 3) (v := 0) hκ (by decide) dX10_lit_2 rfl ?_
  refine j_istore_n (pc' := 4) (lv' := [(2, .int 0), (1, .int 0), (0, .ref (g.2.1 11))]) hκ (Nat.le_of_ble_eq_true rfl) rfl rfl dX10_lit_3 rfl ?_
  obtain ⟨n, h⟩ := h
  refine j_sub [2, 1, 0] rfl ?_
  refine lb_m_lit_4 hκ hR ?_ n _ _ _  h
  intro M3 v4  h
  refine j_iload_n (pc' := 36) hκ 0 rfl rfl dX10_lit_35 rfl ?_
  exact hR _ _ _ _ dX10_lit_36 h
theorem c_m_lit {g : Gx} (hg : Dg g) {X M : ST} {post : Int32 → ST → Prop} (h : wp_m_lit M post) (l : Launch) : Met l yX10_lit wq_X10_lit rm_m_lit (va_Pc [.ref (g.2.1 11)] (PU g X M)) (va_Qi post (fun Y t => va_P g.1 vwCl (ww g X Y) t.heap) (wA g)) 0 0 (wA g) :=
  met_mi hg (by decide) rfl [.ref (g.2.1 11)] rfl (Nat.le_of_ble_eq_true rfl) (fun κ hκ hR => lb_m_lit hκ hR h) l
theorem wm_21_16 : Cond.methodLink RX10 142 yX10_lit ∈ wAll := inr_21 (List.mem_of_getElem? (i := 16) rfl)
theorem wm_21_17 : Cond.instanceMethod yX10_lit ∈ wAll := inr_21 (List.mem_of_getElem? (i := 17) rfl)
theorem wm_21_18 : Cond.selects RX10 yX10_lit yX10_lit ∈ wAll := inr_21 (List.mem_of_getElem? (i := 18) rfl)
theorem wm_21_19 : Cond.code yX10_lit cX10_lit 3 (some .int) ∈ wAll := inr_21 (List.mem_of_getElem? (i := 19) rfl)
theorem hqV_X10_lit : yX10_lit.cls = RX10 ∧ yX10_lit.cls ≠ "java/lang/invoke/MethodHandle" ∧ yX10_lit.cls ≠ "java/lang/invoke/VarHandle" ∧ (parseMethodDescriptor yX10_lit.desc).map (fun d => d.parameters.length) = some 0 := by decide +kernel
theorem wm_21_15 : Cond.fieldLink RX10 146 "LampRoundModel" "lines" "I" ∈ wAll := inr_21 (List.mem_of_getElem? (i := 15) rfl)
abbrev rm_m_many : Room := { frames := 1, cells := 0, slots := 0, locals := 22 }
def wp_m_many_67_s (K112 : ST → Int32 → Prop) (post : Int32 → ST → Prop) (rec : ST → Int32 → Int32 → Prop) (M : ST) (l2 : Int32) (l3 : Int32) : Prop :=
  ((m_lamps M) ≤ l3 → (K112 M l2)) ∧ (¬ (m_lamps M) ≤ l3 → (vp_in l3 12 ∧ (((m_isOut M l3.toNatClampNeg) = 0 → (vp_in l3 12 ∧ ((¬ (m_kind M l3.toNatClampNeg) = 4 → (∀ v3 : Int32, v3 = l2 + 1 → rec M v3 (l3 + 1))) ∧ ((m_kind M l3.toNatClampNeg) = 4 → (∀ v4 : Int32, v4 = l2 + 2 → rec M v4 (l3 + 1)))))) ∧ (¬ (m_isOut M l3.toNatClampNeg) = 0 → (∀ v5 : Int32, v5 = l2 + 0 → rec M v5 (l3 + 1))))))
def wp_m_many_67 (K112 : ST → Int32 → Prop) (post : Int32 → ST → Prop) : Nat → ST → Int32 → Int32 → Prop
  | 0 => fun _ _ _ => False
  | n + 1 => wp_m_many_67_s K112 post (wp_m_many_67 K112 post n)
set_option maxHeartbeats 4000000 in
set_option maxRecDepth 100000 in
theorem lb_m_many_67 {κ : Cx} {g : Gx} {X : ST} (hκ : CF κ g RX10 cX10_many wq_X10_many 4 rm_m_many) {post : Int32 → ST → Prop} (hR : RtmI κ g 4 cX10_many X post) {K112 : ST → Int32 → Prop} (hK112 : ∀ (M : ST) (l2 : Int32), K112 M l2 → Jw κ g 4 X M [(2, .int l2)] 112 []) : ∀ (n : Nat) (M : ST) (l2 : Int32) (l3 : Int32), wp_m_many_67 K112 post n M l2 l3 → Jw κ g 4 X M [(0, .ref (g.2.1 11)), (2, .int l2), (3, .int l3)] 67 [] := by
  intro n
  induction n with
  | zero =>
    intro M l2 l3  h
    exact h.elim
  | succ n ih =>
    intro M l2 l3  h
    have h : wp_m_many_67_s K112 post (wp_m_many_67 K112 post n) M l2 l3 := h
    unfold wp_m_many_67_s at h
    refine j_iload_n (pc' := 68) hκ 2 rfl rfl dX10_many_67 rfl ?_
    refine j_aload_n (pc' := 69) hκ 0 rfl rfl dX10_many_68 rfl ?_
    refine jg_11_9 (pc' := 72) hκ (mi inlX10) (fl_in hκ (mc wm_17_13)) dX10_many_69 rfl ?_
    refine j_icmp_ge (tgt := 112) (pc' := 75) hκ dX10_many_72 (by decide) rfl (fun c => ?_) (fun c => ?_)
    · replace h := h.1 c
      refine j_sub [1] rfl ?_
      exact hK112 _ _  h
    · replace h := h.2 c
      refine j_iload_n (pc' := 76) hκ 1 rfl rfl dX10_many_75 rfl ?_
      refine j_aload_n (pc' := 77) hκ 0 rfl rfl dX10_many_76 rfl ?_
      refine jg_11_13 (pc' := 80) hκ (mi inlX10) (fl_in hκ (mc wm_7_21)) dX10_many_77 rfl ?_
      refine j_iload_n (pc' := 81) hκ 2 rfl rfl dX10_many_80 rfl ?_
      refine jm_zald (pc' := 82) hκ (ah_58 g) h.1 dX10_many_81 rfl ?_
      replace h := h.2
      refine j_if_eq (tgt := 89) (pc' := 85) hκ dX10_many_82 (by decide) rfl (fun c => ?_) (fun c => ?_)
      · replace h := h.1 c
        refine j_aload_n (pc' := 90) hκ 0 rfl rfl dX10_many_89 rfl ?_
        refine jg_11_11 (pc' := 93) hκ (mi inlX10) (fl_in hκ (mc wm_7_19)) dX10_many_90 rfl ?_
        refine j_iload_n (pc' := 94) hκ 2 rfl rfl dX10_many_93 rfl ?_
        refine jm_iald (pc' := 95) hκ (ah_56 g) h.1 dX10_many_94 rfl ?_
        replace h := h.2
        refine j_iconst (pc' := 96) (v := 4) hκ (by decide) dX10_many_95 rfl ?_
        refine j_icmp_ne (tgt := 103) (pc' := 99) hκ dX10_many_96 (by decide) rfl (fun c => ?_) (fun c => ?_)
        · replace h := h.1 c
          refine j_iconst (pc' := 104) (v := 1) hκ (by decide) dX10_many_103 rfl ?_
          refine j_iadd (pc' := 105) hκ dX10_many_104 rfl ?_
          refine j_topi (fun v3 ev3 => ?_)
          replace h := h v3 ev3
          refine j_istore_n (pc' := 106) (lv' := [(2, .int v3), (0, .ref (g.2.1 11)), (3, .int l3)]) hκ (Nat.le_of_ble_eq_true rfl) rfl rfl dX10_many_105 rfl ?_
          refine j_iinc (pc' := 109) (v := l3 + 1) (lv' := [(3, .int (l3 + 1)), (2, .int v3), (0, .ref (g.2.1 11))]) hκ 2 rfl rfl (Nat.le_of_ble_eq_true rfl) rfl dX10_many_106 rfl ?_
          refine j_goto (pc' := 67) hκ (by decide) dX10_many_109 ?_
          refine j_sub [2, 1, 0] rfl ?_
          exact ih _ _ _  h
        · replace h := h.2 c
          refine j_iconst (pc' := 100) (v := 2) hκ (by decide) dX10_many_99 rfl ?_
          refine j_goto (pc' := 104) hκ (by decide) dX10_many_100 ?_
          refine j_iadd (pc' := 105) hκ dX10_many_104 rfl ?_
          refine j_topi (fun v4 ev4 => ?_)
          replace h := h v4 ev4
          refine j_istore_n (pc' := 106) (lv' := [(2, .int v4), (0, .ref (g.2.1 11)), (3, .int l3)]) hκ (Nat.le_of_ble_eq_true rfl) rfl rfl dX10_many_105 rfl ?_
          refine j_iinc (pc' := 109) (v := l3 + 1) (lv' := [(3, .int (l3 + 1)), (2, .int v4), (0, .ref (g.2.1 11))]) hκ 2 rfl rfl (Nat.le_of_ble_eq_true rfl) rfl dX10_many_106 rfl ?_
          refine j_goto (pc' := 67) hκ (by decide) dX10_many_109 ?_
          refine j_sub [2, 1, 0] rfl ?_
          exact ih _ _ _  h
      · replace h := h.2 c
        refine j_iconst (pc' := 86) (v := 0) hκ (by decide) dX10_many_85 rfl ?_
        refine j_goto (pc' := 104) hκ (by decide) dX10_many_86 ?_
        refine j_iadd (pc' := 105) hκ dX10_many_104 rfl ?_
        refine j_topi (fun v5 ev5 => ?_)
        replace h := h v5 ev5
        refine j_istore_n (pc' := 106) (lv' := [(2, .int v5), (0, .ref (g.2.1 11)), (3, .int l3)]) hκ (Nat.le_of_ble_eq_true rfl) rfl rfl dX10_many_105 rfl ?_
        refine j_iinc (pc' := 109) (v := l3 + 1) (lv' := [(3, .int (l3 + 1)), (2, .int v5), (0, .ref (g.2.1 11))]) hκ 2 rfl rfl (Nat.le_of_ble_eq_true rfl) rfl dX10_many_106 rfl ?_
        refine j_goto (pc' := 67) hκ (by decide) dX10_many_109 ?_
        refine j_sub [2, 1, 0] rfl ?_
        exact ih _ _ _  h
def wp_m_many (M : ST) (p1 : Int32) (post : Int32 → ST → Prop) : Prop :=
  (p1 = 0 → (post (m_lanes M) M)) ∧ (¬ p1 = 0 → ((p1 = 1 → (post (m_lamps M) M)) ∧ (¬ p1 = 1 → ((p1 = 2 → (wp_m_lit M (fun r2 M1 => post r2 M1))) ∧ (¬ p1 = 2 → ((p1 = 3 → (post (m_lines M) M)) ∧ (¬ p1 = 3 → ((p1 = 4 → (post (m_told M) M)) ∧ (¬ p1 = 4 → ((p1 = 5 → (∃ n, wp_m_many_67 (fun M6 v7 => post v7 M6) post n M 0 0)) ∧ (¬ p1 = 5 → (post (-1) M))))))))))))
set_option maxHeartbeats 4000000 in
set_option maxRecDepth 100000 in
theorem lb_m_many {κ : Cx} {g : Gx} {X : ST} (hκ : CF κ g RX10 cX10_many wq_X10_many 4 rm_m_many) {post : Int32 → ST → Prop} (hR : RtmI κ g 4 cX10_many X post) {M : ST} {p1 : Int32} (h : wp_m_many M p1 post) : Jw κ g 4 X M [(0, .ref (g.2.1 11)), (1, .int p1)] 0 [] := by
  unfold wp_m_many at h
  refine j_iconst (pc' := 1) (v := 0) hκ (by decide) dX10_many_0 rfl ?_
  refine j_istore_n (pc' := 2) (lv' := [(2, .int 0), (0, .ref (g.2.1 11)), (1, .int p1)]) hκ (Nat.le_of_ble_eq_true rfl) rfl rfl dX10_many_1 rfl ?_
  refine j_iload_n (pc' := 3) hκ 2 rfl rfl dX10_many_2 rfl ?_
  by_cases c0 : p1 = 0
  · replace h := h.1 c0
    refine j_tabEq (v := 0) (tgt := 40) hκ dX10_many_3 c0 (by decide) (by decide) rfl (by decide) ?_
    refine j_aload_n (pc' := 41) hκ 1 rfl rfl dX10_many_40 rfl ?_
    refine jg_11_0 (pc' := 44) hκ (mi inlX10) (fl_in hκ (mc wm_8_20)) dX10_many_41 rfl ?_
    exact hR _ _ _ _ dX10_many_44 h
  replace h := h.2 c0
  by_cases c1 : p1 = 1
  · replace h := h.1 c1
    refine j_tabEq (v := 1) (tgt := 45) hκ dX10_many_3 c1 (by decide) (by decide) rfl (by decide) ?_
    refine j_aload_n (pc' := 46) hκ 1 rfl rfl dX10_many_45 rfl ?_
    refine jg_11_9 (pc' := 49) hκ (mi inlX10) (fl_in hκ (mc wm_17_13)) dX10_many_46 rfl ?_
    exact hR _ _ _ _ dX10_many_49 h
  replace h := h.2 c1
  by_cases c2 : p1 = 2
  · replace h := h.1 c2
    refine j_tabEq (v := 2) (tgt := 50) hκ dX10_many_3 c2 (by decide) (by decide) rfl (by decide) ?_
    refine j_aload_n (pc' := 51) hκ 1 rfl rfl dX10_many_50 rfl ?_
    refine jm_callVi (pc' := 54) hκ (c_m_lit (dg hκ) h) rfl rfl rfl (gV wm_21_16 wm_21_17 wm_21_18 wm_1_5 wm_21_19) hqV_X10_lit ⟨Nat.le_of_ble_eq_true rfl, Nat.le_of_ble_eq_true rfl⟩ (wg_11 g _ _) rfl rfl rfl (Nat.le_of_ble_eq_true rfl) dX10_many_51 rfl (fun r2 M1 h => ?_)
    exact hR _ _ _ _ dX10_many_54 h
  replace h := h.2 c2
  by_cases c3 : p1 = 3
  · replace h := h.1 c3
    refine j_tabEq (v := 3) (tgt := 55) hκ dX10_many_3 c3 (by decide) (by decide) rfl (by decide) ?_
    refine j_aload_n (pc' := 56) hκ 1 rfl rfl dX10_many_55 rfl ?_
    refine jg_11_17 (pc' := 59) hκ (mi inlX10) (fl_in hκ (mc wm_21_15)) dX10_many_56 rfl ?_
    exact hR _ _ _ _ dX10_many_59 h
  replace h := h.2 c3
  by_cases c4 : p1 = 4
  · replace h := h.1 c4
    refine j_tabEq (v := 4) (tgt := 60) hκ dX10_many_3 c4 (by decide) (by decide) rfl (by decide) ?_
    refine j_aload_n (pc' := 61) hκ 1 rfl rfl dX10_many_60 rfl ?_
    refine jg_11_15 (pc' := 64) hκ (mi inlX10) (fl_in hκ (mc wm_10_8)) dX10_many_61 rfl ?_
    exact hR _ _ _ _ dX10_many_64 h
  replace h := h.2 c4
  by_cases c5 : p1 = 5
  · replace h := h.1 c5
    refine j_tabEq (v := 5) (tgt := 65) hκ dX10_many_3 c5 (by decide) (by decide) rfl (by decide) ?_
    refine j_iconst (pc' := 66) (v := 0) hκ (by decide) dX10_many_65 rfl ?_
    refine j_istore_n (pc' := 67) (lv' := [(3, .int 0), (2, .int 0), (0, .ref (g.2.1 11)), (1, .int p1)]) hκ (Nat.le_of_ble_eq_true rfl) rfl rfl dX10_many_66 rfl ?_
    obtain ⟨n, h⟩ := h
    refine j_sub [2, 1, 0] rfl ?_
    refine lb_m_many_67 hκ hR ?_ n _ _ _  h
    intro M6 v7  h
    refine j_iload_n (pc' := 113) hκ 0 rfl rfl dX10_many_112 rfl ?_
    exact hR _ _ _ _ dX10_many_113 h
  replace h := h.2 c5
  have u0 : ¬ (p1).toInt = 0 := fun e => c0 (Int32.toInt_inj.mp (e.trans (by decide)))
  have u1 : ¬ (p1).toInt = 1 := fun e => c1 (Int32.toInt_inj.mp (e.trans (by decide)))
  have u2 : ¬ (p1).toInt = 2 := fun e => c2 (Int32.toInt_inj.mp (e.trans (by decide)))
  have u3 : ¬ (p1).toInt = 3 := fun e => c3 (Int32.toInt_inj.mp (e.trans (by decide)))
  have u4 : ¬ (p1).toInt = 4 := fun e => c4 (Int32.toInt_inj.mp (e.trans (by decide)))
  have u5 : ¬ (p1).toInt = 5 := fun e => c5 (Int32.toInt_inj.mp (e.trans (by decide)))
  refine j_tabOut (tgt := 114) hκ dX10_many_3 (by omega) (by decide) ?_
  refine j_iconst (pc' := 115) (v := (-1)) hκ (by decide) dX10_many_114 rfl ?_
  exact hR _ _ _ _ dX10_many_115 h
theorem c_m_many {g : Gx} (hg : Dg g) {X M : ST} {p1 : Int32} {post : Int32 → ST → Prop} (h : wp_m_many M p1 post) (l : Launch) : Met l yX10_many wq_X10_many rm_m_many (va_Pc [.ref (g.2.1 11), .int p1] (PU g X M)) (va_Qi post (fun Y t => va_P g.1 vwCl (ww g X Y) t.heap) (wA g)) 0 0 (wA g) :=
  met_mi hg (by decide) rfl [.ref (g.2.1 11), .int p1] rfl (Nat.le_of_ble_eq_true rfl) (fun κ hκ hR => lb_m_many hκ hR h) l
theorem wm_8_3 : Cond.fieldLink RX10 63 "LampRoundModel" "order" "[I" ∈ wAll := inr_8 (List.mem_of_getElem? (i := 3) rfl)
abbrev rm_m_swap : Room := { frames := 0, cells := 0, slots := 0, locals := 0 }
def wp_m_swap (M : ST) (p1 : Int32) (p2 : Int32) (post : ST → Prop) : Prop :=
  vp_in p1 12 ∧ (∀ v1 : Int32, v1 = m_order M p1.toNatClampNeg → vp_in p2 12 ∧ (vp_in p1 12 ∧ (∀ M2 : ST, M2 = ms_order M (upd (m_order M) p1.toNatClampNeg (m_order M p2.toNatClampNeg)) → vp_in p2 12 ∧ (∀ M3 : ST, M3 = ms_order M2 (upd (m_order M2) p2.toNatClampNeg v1) → post M3))))
set_option maxHeartbeats 4000000 in
set_option maxRecDepth 100000 in
theorem lb_m_swap {κ : Cx} {g : Gx} {X : ST} (hκ : CF κ g RX10 cX10_swap wq_X10_swap 4 rm_m_swap) {post : ST → Prop} (hR : RtmV κ g 4 cX10_swap X post) {M : ST} {p1 : Int32} {p2 : Int32} (h : wp_m_swap M p1 p2 post) : Jw κ g 4 X M [(0, .ref (g.2.1 11)), (1, .int p1), (2, .int p2)] 0 [] := by
  unfold wp_m_swap at h
  refine j_aload_n (pc' := 1) hκ 0 rfl rfl dX10_swap_0 rfl ?_
  refine jg_11_21 (pc' := 4) hκ (mi inlX10) (fl_in hκ (mc wm_8_3)) dX10_swap_1 rfl ?_
  refine j_iload_n (pc' := 5) hκ 1 rfl rfl dX10_swap_4 rfl ?_
  refine jm_iald (pc' := 6) hκ (ah_64 g) h.1 dX10_swap_5 rfl ?_
  replace h := h.2
  refine j_topi (fun v1 ev1 => ?_)
  replace h := h v1 ev1
  refine j_istore_n (pc' := 7) (lv' := [(3, .int v1), (0, .ref (g.2.1 11)), (1, .int p1), (2, .int p2)]) hκ (Nat.le_of_ble_eq_true rfl) rfl rfl dX10_swap_6 rfl ?_
  refine j_aload_n (pc' := 8) hκ 1 rfl rfl dX10_swap_7 rfl ?_
  refine jg_11_21 (pc' := 11) hκ (mi inlX10) (fl_in hκ (mc wm_8_3)) dX10_swap_8 rfl ?_
  refine j_iload_n (pc' := 12) hκ 2 rfl rfl dX10_swap_11 rfl ?_
  refine j_aload_n (pc' := 13) hκ 1 rfl rfl dX10_swap_12 rfl ?_
  refine jg_11_21 (pc' := 16) hκ (mi inlX10) (fl_in hκ (mc wm_8_3)) dX10_swap_13 rfl ?_
  refine j_iload_n (pc' := 17) hκ 3 rfl rfl dX10_swap_16 rfl ?_
  refine jm_iald (pc' := 18) hκ (ah_64 g) h.1 dX10_swap_17 rfl ?_
  replace h := h.2
  refine jm_iast (pc' := 19) hκ (ah_64 g) h.1 dX10_swap_18 rfl ?_
  replace h := h.2
  refine j_nmM (fun M2 eM2 => ?_)
  replace h := h M2 eM2
  refine j_aload_n (pc' := 20) hκ 1 rfl rfl dX10_swap_19 rfl ?_
  refine jg_11_21 (pc' := 23) hκ (mi inlX10) (fl_in hκ (mc wm_8_3)) dX10_swap_20 rfl ?_
  refine j_iload_n (pc' := 24) hκ 3 rfl rfl dX10_swap_23 rfl ?_
  refine j_iload_n (pc' := 25) hκ 0 rfl rfl dX10_swap_24 rfl ?_
  refine jm_iast (pc' := 26) hκ (ah_64 g) h.1 dX10_swap_25 rfl ?_
  replace h := h.2
  refine j_nmM (fun M3 eM3 => ?_)
  replace h := h M3 eM3
  exact hR _ _ _ dX10_swap_26 h
theorem c_m_swap {g : Gx} (hg : Dg g) {X M : ST} {p1 : Int32} {p2 : Int32} {post : ST → Prop} (h : wp_m_swap M p1 p2 post) (l : Launch) : Met l yX10_swap wq_X10_swap rm_m_swap (va_Pc [.ref (g.2.1 11), .int p1, .int p2] (PU g X M)) (va_Qv post (fun Y t => va_P g.1 vwCl (ww g X Y) t.heap) (wA g)) 0 0 (wA g) :=
  met_mv hg (by decide) rfl [.ref (g.2.1 11), .int p1, .int p2] rfl (Nat.le_of_ble_eq_true rfl) (fun κ hκ hR => lb_m_swap hκ hR h) l
theorem wm_25_7 : Cond.methodLink RX10 157 yX10_swap ∈ wAll := inr_25 (List.mem_of_getElem? (i := 7) rfl)
theorem wm_25_8 : Cond.instanceMethod yX10_swap ∈ wAll := inr_25 (List.mem_of_getElem? (i := 8) rfl)
theorem wm_25_9 : Cond.selects RX10 yX10_swap yX10_swap ∈ wAll := inr_25 (List.mem_of_getElem? (i := 9) rfl)
theorem wm_25_10 : Cond.code yX10_swap cX10_swap 4 none ∈ wAll := inr_25 (List.mem_of_getElem? (i := 10) rfl)
theorem hqV_X10_swap : yX10_swap.cls = RX10 ∧ yX10_swap.cls ≠ "java/lang/invoke/MethodHandle" ∧ yX10_swap.cls ≠ "java/lang/invoke/VarHandle" ∧ (parseMethodDescriptor yX10_swap.desc).map (fun d => d.parameters.length) = some 2 := by decide +kernel
abbrev rm_m_nextOrder : Room := { frames := 1, cells := 0, slots := 0, locals := 23 }
def wp_m_nextOrder_4_s (K32 : ST → Int32 → Int32 → Prop) (post : Int32 → ST → Prop) (rec : ST → Int32 → Int32 → Prop) (M : ST) (l1 : Int32) (l2 : Int32) : Prop :=
  (l2 < 1 → (K32 M l1 l2)) ∧ (¬ l2 < 1 → (vp_in l2 12 ∧ (vp_in (l2 + 1) 12 ∧ (((m_order M l2.toNatClampNeg) ≤ (m_order M (l2 + 1).toNatClampNeg) → (K32 M l1 l2)) ∧ (¬ (m_order M l2.toNatClampNeg) ≤ (m_order M (l2 + 1).toNatClampNeg) → (rec M l1 (l2 + (-1))))))))
def wp_m_nextOrder_4 (K32 : ST → Int32 → Int32 → Prop) (post : Int32 → ST → Prop) : Nat → ST → Int32 → Int32 → Prop
  | 0 => fun _ _ _ => False
  | n + 1 => wp_m_nextOrder_4_s K32 post (wp_m_nextOrder_4 K32 post n)
set_option maxHeartbeats 4000000 in
set_option maxRecDepth 100000 in
theorem lb_m_nextOrder_4 {κ : Cx} {g : Gx} {X : ST} (hκ : CF κ g RX10 cX10_nextOrder wq_X10_nextOrder 6 rm_m_nextOrder) {post : Int32 → ST → Prop} (hR : RtmZ κ g 6 cX10_nextOrder X post) {K32 : ST → Int32 → Int32 → Prop} (hK32 : ∀ (M : ST) (l1 : Int32) (l2 : Int32), K32 M l1 l2 → Jw κ g 6 X M [(0, .ref (g.2.1 11)), (1, .int l1), (2, .int l2)] 32 []) : ∀ (n : Nat) (M : ST) (l1 : Int32) (l2 : Int32), wp_m_nextOrder_4 K32 post n M l1 l2 → Jw κ g 6 X M [(0, .ref (g.2.1 11)), (1, .int l1), (2, .int l2)] 4 [] := by
  intro n
  induction n with
  | zero =>
    intro M l1 l2  h
    exact h.elim
  | succ n ih =>
    intro M l1 l2  h
    have h : wp_m_nextOrder_4_s K32 post (wp_m_nextOrder_4 K32 post n) M l1 l2 := h
    unfold wp_m_nextOrder_4_s at h
    refine j_iload_n (pc' := 5) hκ 2 rfl rfl dX10_nextOrder_4 rfl ?_
    refine j_iconst (pc' := 6) (v := 1) hκ (by decide) dX10_nextOrder_5 rfl ?_
    refine j_icmp_lt (tgt := 32) (pc' := 9) hκ dX10_nextOrder_6 (by decide) rfl (fun c => ?_) (fun c => ?_)
    · replace h := h.1 c
      exact hK32 _ _ _  h
    · replace h := h.2 c
      refine j_aload_n (pc' := 10) hκ 0 rfl rfl dX10_nextOrder_9 rfl ?_
      refine jg_11_21 (pc' := 13) hκ (mi inlX10) (fl_in hκ (mc wm_8_3)) dX10_nextOrder_10 rfl ?_
      refine j_iload_n (pc' := 14) hκ 2 rfl rfl dX10_nextOrder_13 rfl ?_
      refine jm_iald (pc' := 15) hκ (ah_64 g) h.1 dX10_nextOrder_14 rfl ?_
      replace h := h.2
      refine j_aload_n (pc' := 16) hκ 0 rfl rfl dX10_nextOrder_15 rfl ?_
      refine jg_11_21 (pc' := 19) hκ (mi inlX10) (fl_in hκ (mc wm_8_3)) dX10_nextOrder_16 rfl ?_
      refine j_iload_n (pc' := 20) hκ 2 rfl rfl dX10_nextOrder_19 rfl ?_
      refine j_iconst (pc' := 21) (v := 1) hκ (by decide) dX10_nextOrder_20 rfl ?_
      refine j_iadd (pc' := 22) hκ dX10_nextOrder_21 rfl ?_
      refine jm_iald (pc' := 23) hκ (ah_64 g) h.1 dX10_nextOrder_22 rfl ?_
      replace h := h.2
      refine j_icmp_le (tgt := 32) (pc' := 26) hκ dX10_nextOrder_23 (by decide) rfl (fun c => ?_) (fun c => ?_)
      · replace h := h.1 c
        exact hK32 _ _ _  h
      · replace h := h.2 c
        refine j_iinc (pc' := 29) (v := l2 + (-1)) (lv' := [(2, .int (l2 + (-1))), (0, .ref (g.2.1 11)), (1, .int l1)]) hκ 2 rfl (congrArg (fun z => l2 + z) (by decide)) (Nat.le_of_ble_eq_true rfl) rfl dX10_nextOrder_26 rfl ?_
        refine j_goto (pc' := 4) hκ (by decide) dX10_nextOrder_29 ?_
        refine j_sub [1, 2, 0] rfl ?_
        exact ih _ _ _  h
def wp_m_nextOrder_43_s (K64 : ST → Int32 → Int32 → Int32 → Prop) (post : Int32 → ST → Prop) (rec : ST → Int32 → Int32 → Int32 → Prop) (M : ST) (l1 : Int32) (l2 : Int32) (l3 : Int32) : Prop :=
  vp_in l3 12 ∧ (vp_in l2 12 ∧ (((m_order M l2.toNatClampNeg) ≤ (m_order M l3.toNatClampNeg) → (K64 M l1 l2 l3)) ∧ (¬ (m_order M l2.toNatClampNeg) ≤ (m_order M l3.toNatClampNeg) → (rec M l1 l2 (l3 + (-1))))))
def wp_m_nextOrder_43 (K64 : ST → Int32 → Int32 → Int32 → Prop) (post : Int32 → ST → Prop) : Nat → ST → Int32 → Int32 → Int32 → Prop
  | 0 => fun _ _ _ _ => False
  | n + 1 => wp_m_nextOrder_43_s K64 post (wp_m_nextOrder_43 K64 post n)
set_option maxHeartbeats 4000000 in
set_option maxRecDepth 100000 in
theorem lb_m_nextOrder_43 {κ : Cx} {g : Gx} {X : ST} (hκ : CF κ g RX10 cX10_nextOrder wq_X10_nextOrder 6 rm_m_nextOrder) {post : Int32 → ST → Prop} (hR : RtmZ κ g 6 cX10_nextOrder X post) {K64 : ST → Int32 → Int32 → Int32 → Prop} (hK64 : ∀ (M : ST) (l1 : Int32) (l2 : Int32) (l3 : Int32), K64 M l1 l2 l3 → Jw κ g 6 X M [(0, .ref (g.2.1 11)), (1, .int l1), (2, .int l2), (3, .int l3)] 64 []) : ∀ (n : Nat) (M : ST) (l1 : Int32) (l2 : Int32) (l3 : Int32), wp_m_nextOrder_43 K64 post n M l1 l2 l3 → Jw κ g 6 X M [(0, .ref (g.2.1 11)), (1, .int l1), (2, .int l2), (3, .int l3)] 43 [] := by
  intro n
  induction n with
  | zero =>
    intro M l1 l2 l3  h
    exact h.elim
  | succ n ih =>
    intro M l1 l2 l3  h
    have h : wp_m_nextOrder_43_s K64 post (wp_m_nextOrder_43 K64 post n) M l1 l2 l3 := h
    unfold wp_m_nextOrder_43_s at h
    refine j_aload_n (pc' := 44) hκ 0 rfl rfl dX10_nextOrder_43 rfl ?_
    refine jg_11_21 (pc' := 47) hκ (mi inlX10) (fl_in hκ (mc wm_8_3)) dX10_nextOrder_44 rfl ?_
    refine j_iload_n (pc' := 48) hκ 3 rfl rfl dX10_nextOrder_47 rfl ?_
    refine jm_iald (pc' := 49) hκ (ah_64 g) h.1 dX10_nextOrder_48 rfl ?_
    replace h := h.2
    refine j_aload_n (pc' := 50) hκ 0 rfl rfl dX10_nextOrder_49 rfl ?_
    refine jg_11_21 (pc' := 53) hκ (mi inlX10) (fl_in hκ (mc wm_8_3)) dX10_nextOrder_50 rfl ?_
    refine j_iload_n (pc' := 54) hκ 2 rfl rfl dX10_nextOrder_53 rfl ?_
    refine jm_iald (pc' := 55) hκ (ah_64 g) h.1 dX10_nextOrder_54 rfl ?_
    replace h := h.2
    refine j_icmp_ge (tgt := 64) (pc' := 58) hκ dX10_nextOrder_55 (by decide) rfl (fun c => ?_) (fun c => ?_)
    · replace h := h.1 c
      exact hK64 _ _ _ _  h
    · replace h := h.2 c
      refine j_iinc (pc' := 61) (v := l3 + (-1)) (lv' := [(3, .int (l3 + (-1))), (0, .ref (g.2.1 11)), (1, .int l1), (2, .int l2)]) hκ 3 rfl (congrArg (fun z => l3 + z) (by decide)) (Nat.le_of_ble_eq_true rfl) rfl dX10_nextOrder_58 rfl ?_
      refine j_goto (pc' := 43) hκ (by decide) dX10_nextOrder_61 ?_
      refine j_sub [1, 2, 3, 0] rfl ?_
      exact ih _ _ _ _  h
def wp_m_nextOrder_80_s (K104 : ST → Prop) (post : Int32 → ST → Prop) (rec : ST → Int32 → Int32 → Prop) (M : ST) (l4 : Int32) (l5 : Int32) : Prop :=
  (l5 ≤ l4 → (K104 M)) ∧ (¬ l5 ≤ l4 → (wp_m_swap M l4 l5 (fun M14 => rec M14 (l4 + 1) (l5 + (-1)))))
def wp_m_nextOrder_80 (K104 : ST → Prop) (post : Int32 → ST → Prop) : Nat → ST → Int32 → Int32 → Prop
  | 0 => fun _ _ _ => False
  | n + 1 => wp_m_nextOrder_80_s K104 post (wp_m_nextOrder_80 K104 post n)
set_option maxHeartbeats 4000000 in
set_option maxRecDepth 100000 in
theorem lb_m_nextOrder_80 {κ : Cx} {g : Gx} {X : ST} (hκ : CF κ g RX10 cX10_nextOrder wq_X10_nextOrder 6 rm_m_nextOrder) {post : Int32 → ST → Prop} (hR : RtmZ κ g 6 cX10_nextOrder X post) {K104 : ST → Prop} (hK104 : ∀ (M : ST), K104 M → Jw κ g 6 X M [] 104 []) : ∀ (n : Nat) (M : ST) (l4 : Int32) (l5 : Int32), wp_m_nextOrder_80 K104 post n M l4 l5 → Jw κ g 6 X M [(0, .ref (g.2.1 11)), (4, .int l4), (5, .int l5)] 80 [] := by
  intro n
  induction n with
  | zero =>
    intro M l4 l5  h
    exact h.elim
  | succ n ih =>
    intro M l4 l5  h
    have h : wp_m_nextOrder_80_s K104 post (wp_m_nextOrder_80 K104 post n) M l4 l5 := h
    unfold wp_m_nextOrder_80_s at h
    refine j_iload (pc' := 82) hκ 1 rfl dX10_nextOrder_80 rfl ?_
    refine j_iload (pc' := 84) hκ 2 rfl dX10_nextOrder_82 rfl ?_
    refine j_icmp_ge (tgt := 104) (pc' := 87) hκ dX10_nextOrder_84 (by decide) rfl (fun c => ?_) (fun c => ?_)
    · replace h := h.1 c
      refine j_sub [] rfl ?_
      exact hK104 _  h
    · replace h := h.2 c
      refine j_aload_n (pc' := 88) hκ 0 rfl rfl dX10_nextOrder_87 rfl ?_
      refine j_iload (pc' := 90) hκ 1 rfl dX10_nextOrder_88 rfl ?_
      refine j_iload (pc' := 92) hκ 2 rfl dX10_nextOrder_90 rfl ?_
      refine jm_callVv (pc' := 95) hκ (c_m_swap (dg hκ) h) rfl rfl rfl (gV wm_25_7 wm_25_8 wm_25_9 wm_1_5 wm_25_10) hqV_X10_swap ⟨Nat.le_of_ble_eq_true rfl, Nat.le_of_ble_eq_true rfl⟩ (wg_11 g _ _) rfl rfl rfl (Nat.le_of_ble_eq_true rfl) dX10_nextOrder_92 rfl (fun M14 h => ?_)
      refine j_iinc (pc' := 98) (v := l4 + 1) (lv' := [(4, .int (l4 + 1)), (0, .ref (g.2.1 11)), (5, .int l5)]) hκ 1 rfl rfl (Nat.le_of_ble_eq_true rfl) rfl dX10_nextOrder_95 rfl ?_
      refine j_iinc (pc' := 101) (v := l5 + (-1)) (lv' := [(5, .int (l5 + (-1))), (4, .int (l4 + 1)), (0, .ref (g.2.1 11))]) hκ 2 rfl (congrArg (fun z => l5 + z) (by decide)) (Nat.le_of_ble_eq_true rfl) rfl dX10_nextOrder_98 rfl ?_
      refine j_goto (pc' := 80) hκ (by decide) dX10_nextOrder_101 ?_
      refine j_sub [2, 1, 0] rfl ?_
      exact ih _ _ _  h
def wp_m_nextOrder_32 (post : Int32 → ST → Prop) (M : ST) (l1 : Int32) (l2 : Int32) : Prop :=
  (1 ≤ l2 → (∀ v5 : Int32, v5 = l1 - 1 → ∃ n, wp_m_nextOrder_43 (fun M6 v7 v8 v9 => wp_m_swap M6 v8 v9 (fun M10 => ∀ v12 : Int32, v12 = v8 + 1 → ∀ v13 : Int32, v13 = v7 - 1 → ∃ n, wp_m_nextOrder_80 (fun M16 => post 1 M16) post n M10 v12 v13)) post n M l1 l2 v5)) ∧ (¬ 1 ≤ l2 → (post 0 M))
set_option maxHeartbeats 4000000 in
set_option maxRecDepth 100000 in
theorem lb_m_nextOrder_32 {κ : Cx} {g : Gx} {X : ST} (hκ : CF κ g RX10 cX10_nextOrder wq_X10_nextOrder 6 rm_m_nextOrder) {post : Int32 → ST → Prop} (hR : RtmZ κ g 6 cX10_nextOrder X post) : ∀ (M : ST) (l1 : Int32) (l2 : Int32), wp_m_nextOrder_32 post M l1 l2 → Jw κ g 6 X M [(0, .ref (g.2.1 11)), (1, .int l1), (2, .int l2)] 32 [] := by
  intro M l1 l2  h
  unfold wp_m_nextOrder_32 at h
  refine j_iload_n (pc' := 33) hκ 2 rfl rfl dX10_nextOrder_32 rfl ?_
  refine j_iconst (pc' := 34) (v := 1) hκ (by decide) dX10_nextOrder_33 rfl ?_
  refine j_icmp_ge (tgt := 39) (pc' := 37) hκ dX10_nextOrder_34 (by decide) rfl (fun c => ?_) (fun c => ?_)
  · replace h := h.1 c
    refine j_iload_n (pc' := 40) hκ 1 rfl rfl dX10_nextOrder_39 rfl ?_
    refine j_iconst (pc' := 41) (v := 1) hκ (by decide) dX10_nextOrder_40 rfl ?_
    refine j_isub (pc' := 42) hκ dX10_nextOrder_41 rfl ?_
    refine j_topi (fun v5 ev5 => ?_)
    replace h := h v5 ev5
    refine j_istore_n (pc' := 43) (lv' := [(3, .int v5), (0, .ref (g.2.1 11)), (1, .int l1), (2, .int l2)]) hκ (Nat.le_of_ble_eq_true rfl) rfl rfl dX10_nextOrder_42 rfl ?_
    obtain ⟨n, h⟩ := h
    refine j_sub [1, 2, 3, 0] rfl ?_
    refine lb_m_nextOrder_43 hκ hR ?_ n _ _ _ _  h
    intro M6 v7 v8 v9  h
    refine j_aload_n (pc' := 65) hκ 0 rfl rfl dX10_nextOrder_64 rfl ?_
    refine j_iload_n (pc' := 66) hκ 2 rfl rfl dX10_nextOrder_65 rfl ?_
    refine j_iload_n (pc' := 67) hκ 3 rfl rfl dX10_nextOrder_66 rfl ?_
    refine jm_callVv (pc' := 70) hκ (c_m_swap (dg hκ) h) rfl rfl rfl (gV wm_25_7 wm_25_8 wm_25_9 wm_1_5 wm_25_10) hqV_X10_swap ⟨Nat.le_of_ble_eq_true rfl, Nat.le_of_ble_eq_true rfl⟩ (wg_11 g _ _) rfl rfl rfl (Nat.le_of_ble_eq_true rfl) dX10_nextOrder_67 rfl (fun M10 h => ?_)
    refine j_iload_n (pc' := 71) hκ 2 rfl rfl dX10_nextOrder_70 rfl ?_
    refine j_iconst (pc' := 72) (v := 1) hκ (by decide) dX10_nextOrder_71 rfl ?_
    refine j_iadd (pc' := 73) hκ dX10_nextOrder_72 rfl ?_
    refine j_topi (fun v12 ev12 => ?_)
    replace h := h v12 ev12
    refine j_istore (pc' := 75) (lv' := [(4, .int v12), (0, .ref (g.2.1 11)), (1, .int v7), (2, .int v8), (3, .int v9)]) hκ (Nat.le_of_ble_eq_true rfl) rfl dX10_nextOrder_73 rfl ?_
    refine j_iload_n (pc' := 76) hκ 2 rfl rfl dX10_nextOrder_75 rfl ?_
    refine j_iconst (pc' := 77) (v := 1) hκ (by decide) dX10_nextOrder_76 rfl ?_
    refine j_isub (pc' := 78) hκ dX10_nextOrder_77 rfl ?_
    refine j_topi (fun v13 ev13 => ?_)
    replace h := h v13 ev13
    refine j_istore (pc' := 80) (lv' := [(5, .int v13), (4, .int v12), (0, .ref (g.2.1 11)), (1, .int v7), (2, .int v8), (3, .int v9)]) hκ (Nat.le_of_ble_eq_true rfl) rfl dX10_nextOrder_78 rfl ?_
    obtain ⟨n, h⟩ := h
    refine j_sub [2, 1, 0] rfl ?_
    refine lb_m_nextOrder_80 hκ hR ?_ n _ _ _  h
    intro M16  h
    refine j_iconst (pc' := 105) (v := 1) hκ (by decide) dX10_nextOrder_104 rfl ?_
    exact hR _ _ _ _ dX10_nextOrder_105 (Or.inr rfl) h
  · replace h := h.2 c
    refine j_iconst (pc' := 38) (v := 0) hκ (by decide) dX10_nextOrder_37 rfl ?_
    exact hR _ _ _ _ dX10_nextOrder_38 (Or.inl rfl) h
def wp_m_nextOrder (M : ST) (p1 : Int32) (post : Int32 → ST → Prop) : Prop :=
  ∀ v1 : Int32, v1 = p1 - 2 → ∃ n, wp_m_nextOrder_4 (fun M2 v3 v4 => wp_m_nextOrder_32 post M2 v3 v4) post n M p1 v1
set_option maxHeartbeats 4000000 in
set_option maxRecDepth 100000 in
theorem lb_m_nextOrder {κ : Cx} {g : Gx} {X : ST} (hκ : CF κ g RX10 cX10_nextOrder wq_X10_nextOrder 6 rm_m_nextOrder) {post : Int32 → ST → Prop} (hR : RtmZ κ g 6 cX10_nextOrder X post) {M : ST} {p1 : Int32} (h : wp_m_nextOrder M p1 post) : Jw κ g 6 X M [(0, .ref (g.2.1 11)), (1, .int p1)] 0 [] := by
  unfold wp_m_nextOrder at h
  refine j_iload_n (pc' := 1) hκ 1 rfl rfl dX10_nextOrder_0 rfl ?_
  refine j_iconst (pc' := 2) (v := 2) hκ (by decide) dX10_nextOrder_1 rfl ?_
  refine j_isub (pc' := 3) hκ dX10_nextOrder_2 rfl ?_
  refine j_topi (fun v1 ev1 => ?_)
  replace h := h v1 ev1
  refine j_istore_n (pc' := 4) (lv' := [(2, .int v1), (0, .ref (g.2.1 11)), (1, .int p1)]) hκ (Nat.le_of_ble_eq_true rfl) rfl rfl dX10_nextOrder_3 rfl ?_
  obtain ⟨n, h⟩ := h
  refine j_sub [1, 2, 0] rfl ?_
  refine lb_m_nextOrder_4 hκ hR ?_ n _ _ _  h
  intro M2 v3 v4  h
  refine lb_m_nextOrder_32 hκ hR _ _ _  h
theorem c_m_nextOrder {g : Gx} (hg : Dg g) {X M : ST} {p1 : Int32} {post : Int32 → ST → Prop} (h : wp_m_nextOrder M p1 post) (l : Launch) : Met l yX10_nextOrder wq_X10_nextOrder rm_m_nextOrder (va_Pc [.ref (g.2.1 11), .int p1] (PU g X M)) (va_Qi post (fun Y t => va_P g.1 vwCl (ww g X Y) t.heap) (wA g)) 0 0 (wA g) :=
  met_mz hg (by decide) rfl [.ref (g.2.1 11), .int p1] rfl (Nat.le_of_ble_eq_true rfl) (fun κ hκ hR => lb_m_nextOrder hκ hR h) l
theorem wm_25_3 : Cond.methodLink RX10 172 yX10_nextOrder ∈ wAll := inr_25 (List.mem_of_getElem? (i := 3) rfl)
theorem wm_25_4 : Cond.instanceMethod yX10_nextOrder ∈ wAll := inr_25 (List.mem_of_getElem? (i := 4) rfl)
theorem wm_25_5 : Cond.selects RX10 yX10_nextOrder yX10_nextOrder ∈ wAll := inr_25 (List.mem_of_getElem? (i := 5) rfl)
theorem wm_25_6 : Cond.code yX10_nextOrder cX10_nextOrder 6 (some .boolean) ∈ wAll := inr_25 (List.mem_of_getElem? (i := 6) rfl)
theorem hqV_X10_nextOrder : yX10_nextOrder.cls = RX10 ∧ yX10_nextOrder.cls ≠ "java/lang/invoke/MethodHandle" ∧ yX10_nextOrder.cls ≠ "java/lang/invoke/VarHandle" ∧ (parseMethodDescriptor yX10_nextOrder.desc).map (fun d => d.parameters.length) = some 1 := by decide +kernel
theorem wm_8_4 : Cond.fieldLink RX10 66 "LampRoundModel" "best" "[I" ∈ wAll := inr_8 (List.mem_of_getElem? (i := 4) rfl)
abbrev rm_m_placeOf : Room := { frames := 0, cells := 0, slots := 0, locals := 0 }
def wp_m_placeOf_5_s (k0 n0 : Nat) (K32 : ST → Int32 → Prop) (post : Int32 → ST → Prop) (rec : ST → Int32 → Int32 → Int32 → Int32 → Prop) (M : ST) (l1 : Int32) (l2 : Int32) (l3 : Int32) (l4 : Int32) : Prop :=
  (l1 ≤ l4 → (K32 M l3)) ∧ (¬ l1 ≤ l4 → (vp_in l4 n0 ∧ ((¬ (M.2.2.1 k0 l4.toNatClampNeg) = l2 → (rec M l1 l2 l3 (l4 + 1))) ∧ ((M.2.2.1 k0 l4.toNatClampNeg) = l2 → (rec M l1 l2 l4 (l4 + 1))))))
def wp_m_placeOf_5 (k0 n0 : Nat) (K32 : ST → Int32 → Prop) (post : Int32 → ST → Prop) : Nat → ST → Int32 → Int32 → Int32 → Int32 → Prop
  | 0 => fun _ _ _ _ _ => False
  | n + 1 => wp_m_placeOf_5_s k0 n0 K32 post (wp_m_placeOf_5 k0 n0 K32 post n)
set_option maxHeartbeats 4000000 in
set_option maxRecDepth 100000 in
theorem lb_m_placeOf_5 {κ : Cx} {g : Gx} {X : ST} (hκ : CF κ g RX10 cX10_placeOf wq_X10_placeOf 5 rm_m_placeOf) {post : Int32 → ST → Prop} (hR : RtmI κ g 5 cX10_placeOf X post) {a0 q0 k0 n0 : Nat} (hh0 : mhI g q0 k0 n0 a0) {K32 : ST → Int32 → Prop} (hK32 : ∀ (M : ST) (l3 : Int32), K32 M l3 → Jw κ g 5 X M [(3, .int l3)] 32 []) : ∀ (n : Nat) (M : ST) (l1 : Int32) (l2 : Int32) (l3 : Int32) (l4 : Int32), wp_m_placeOf_5 k0 n0 K32 post n M l1 l2 l3 l4 → Jw κ g 5 X M [(0, .ref a0), (1, .int l1), (2, .int l2), (3, .int l3), (4, .int l4)] 5 [] := by
  intro n
  induction n with
  | zero =>
    intro M l1 l2 l3 l4  h
    exact h.elim
  | succ n ih =>
    intro M l1 l2 l3 l4  h
    have h : wp_m_placeOf_5_s k0 n0 K32 post (wp_m_placeOf_5 k0 n0 K32 post n) M l1 l2 l3 l4 := h
    unfold wp_m_placeOf_5_s at h
    refine j_iload (pc' := 7) hκ 4 rfl dX10_placeOf_5 rfl ?_
    refine j_iload_n (pc' := 8) hκ 1 rfl rfl dX10_placeOf_7 rfl ?_
    refine j_icmp_ge (tgt := 32) (pc' := 11) hκ dX10_placeOf_8 (by decide) rfl (fun c => ?_) (fun c => ?_)
    · replace h := h.1 c
      refine j_sub [3] rfl ?_
      exact hK32 _ _  h
    · replace h := h.2 c
      refine j_aload_n (pc' := 12) hκ 0 rfl rfl dX10_placeOf_11 rfl ?_
      refine j_iload (pc' := 14) hκ 4 rfl dX10_placeOf_12 rfl ?_
      refine jm_iald (pc' := 15) hκ hh0 h.1 dX10_placeOf_14 rfl ?_
      replace h := h.2
      refine j_iload_n (pc' := 16) hκ 2 rfl rfl dX10_placeOf_15 rfl ?_
      refine j_icmp_ne (tgt := 24) (pc' := 19) hκ dX10_placeOf_16 (by decide) rfl (fun c => ?_) (fun c => ?_)
      · replace h := h.1 c
        refine j_iload_n (pc' := 25) hκ 3 rfl rfl dX10_placeOf_24 rfl ?_
        refine j_istore_n (pc' := 26) (lv' := [(3, .int l3), (0, .ref a0), (1, .int l1), (2, .int l2), (4, .int l4)]) hκ (Nat.le_of_ble_eq_true rfl) rfl rfl dX10_placeOf_25 rfl ?_
        refine j_iinc (pc' := 29) (v := l4 + 1) (lv' := [(4, .int (l4 + 1)), (3, .int l3), (0, .ref a0), (1, .int l1), (2, .int l2)]) hκ 4 rfl rfl (Nat.le_of_ble_eq_true rfl) rfl dX10_placeOf_26 rfl ?_
        refine j_goto (pc' := 5) hκ (by decide) dX10_placeOf_29 ?_
        refine j_sub [2, 3, 4, 1, 0] rfl ?_
        exact ih _ _ _ _ _  h
      · replace h := h.2 c
        refine j_iload (pc' := 21) hκ 4 rfl dX10_placeOf_19 rfl ?_
        refine j_goto (pc' := 25) hκ (by decide) dX10_placeOf_21 ?_
        refine j_istore_n (pc' := 26) (lv' := [(3, .int l4), (0, .ref a0), (1, .int l1), (2, .int l2), (4, .int l4)]) hκ (Nat.le_of_ble_eq_true rfl) rfl rfl dX10_placeOf_25 rfl ?_
        refine j_iinc (pc' := 29) (v := l4 + 1) (lv' := [(4, .int (l4 + 1)), (3, .int l4), (0, .ref a0), (1, .int l1), (2, .int l2)]) hκ 4 rfl rfl (Nat.le_of_ble_eq_true rfl) rfl dX10_placeOf_26 rfl ?_
        refine j_goto (pc' := 5) hκ (by decide) dX10_placeOf_29 ?_
        refine j_sub [2, 3, 4, 1, 0] rfl ?_
        exact ih _ _ _ _ _  h
def wp_m_placeOf (M : ST) (k0 n0 : Nat) (p1 : Int32) (p2 : Int32) (post : Int32 → ST → Prop) : Prop :=
  ∃ n, wp_m_placeOf_5 k0 n0 (fun M1 v2 => post v2 M1) post n M p1 p2 (-1) 0
set_option maxHeartbeats 4000000 in
set_option maxRecDepth 100000 in
theorem lb_m_placeOf {κ : Cx} {g : Gx} {X : ST} (hκ : CF κ g RX10 cX10_placeOf wq_X10_placeOf 5 rm_m_placeOf) {post : Int32 → ST → Prop} (hR : RtmI κ g 5 cX10_placeOf X post) {M : ST} {k0 n0 : Nat} {p1 : Int32} {p2 : Int32} {a0 q0 : Nat} (hh0 : mhI g q0 k0 n0 a0) (h : wp_m_placeOf M k0 n0 p1 p2 post) : Jw κ g 5 X M [(0, .ref a0), (1, .int p1), (2, .int p2)] 0 [] := by
  unfold wp_m_placeOf at h
  refine j_iconst (pc' := 1) (v := (-1)) hκ (by decide) dX10_placeOf_0 rfl ?_
  refine j_istore_n (pc' := 2) (lv' := [(3, .int (-1)), (0, .ref a0), (1, .int p1), (2, .int p2)]) hκ (Nat.le_of_ble_eq_true rfl) rfl rfl dX10_placeOf_1 rfl ?_
  refine j_iconst (pc' := 3) (v := 0) hκ (by decide) dX10_placeOf_2 rfl ?_
  refine j_istore (pc' := 5) (lv' := [(4, .int 0), (3, .int (-1)), (0, .ref a0), (1, .int p1), (2, .int p2)]) hκ (Nat.le_of_ble_eq_true rfl) rfl dX10_placeOf_3 rfl ?_
  obtain ⟨n, h⟩ := h
  refine j_sub [2, 3, 4, 1, 0] rfl ?_
  refine lb_m_placeOf_5 hκ hR hh0 ?_ n _ _ _ _ _  h
  intro M1 v2  h
  refine j_iload_n (pc' := 33) hκ 0 rfl rfl dX10_placeOf_32 rfl ?_
  exact hR _ _ _ _ dX10_placeOf_33 h
theorem c_m_placeOf {g : Gx} (hg : Dg g) {X M : ST} {k0 n0 : Nat} {p1 : Int32} {p2 : Int32} {a0 q0 : Nat} (hh0 : mhI g q0 k0 n0 a0) {post : Int32 → ST → Prop} (h : wp_m_placeOf M k0 n0 p1 p2 post) (l : Launch) : Met l yX10_placeOf wq_X10_placeOf rm_m_placeOf (va_Pc [.ref a0, .int p1, .int p2] (PU g X M)) (va_Qi post (fun Y t => va_P g.1 vwCl (ww g X Y) t.heap) (wA g)) 0 0 (wA g) :=
  met_mi hg (by decide) rfl [.ref a0, .int p1, .int p2] rfl (Nat.le_of_ble_eq_true rfl) (fun κ hκ hR => lb_m_placeOf hκ hR hh0 h) l
theorem wm_24_20 : Cond.methodLink RX10 149 yX10_placeOf ∈ wAll := inr_24 (List.mem_of_getElem? (i := 20) rfl)
theorem wm_24_21 : Cond.static yX10_placeOf ∈ wAll := inr_24 (List.mem_of_getElem? (i := 21) rfl)
theorem wm_24_22 : Cond.code yX10_placeOf cX10_placeOf 5 (some .int) ∈ wAll := inr_24 (List.mem_of_getElem? (i := 22) rfl)
theorem hqS_X10_placeOf : yX10_placeOf.cls ≠ "java/lang/invoke/MethodHandle" ∧ yX10_placeOf.cls ≠ "java/lang/invoke/VarHandle" ∧ (parseMethodDescriptor yX10_placeOf.desc).map (fun d => d.parameters.length) = some 3 := by decide +kernel
abbrev rm_m_areBeside : Room := { frames := 1, cells := 0, slots := 0, locals := 24 }
def wp_m_areBeside (M : ST) (k0 n0 : Nat) (p1 : Int32) (p2 : Int32) (p3 : Int32) (post : Int32 → ST → Prop) : Prop :=
  wp_m_placeOf M k0 n0 p1 p2 (fun r2 M1 => wp_m_placeOf M1 k0 n0 p1 p3 (fun r4 M3 => ∀ v5 : Int32, v5 = r2 - r4 → (v5 = 1 → (post 1 M3)) ∧ (¬ v5 = 1 → ((v5 = (-1) → (post 1 M3)) ∧ (¬ v5 = (-1) → ((v5 = (p1 - 1) → (post 1 M3)) ∧ (¬ v5 = (p1 - 1) → ((¬ v5 = (1 - p1) → (post 0 M3)) ∧ (v5 = (1 - p1) → (post 1 M3))))))))))
set_option maxHeartbeats 4000000 in
set_option maxRecDepth 100000 in
theorem lb_m_areBeside {κ : Cx} {g : Gx} {X : ST} (hκ : CF κ g RX10 cX10_areBeside wq_X10_areBeside 5 rm_m_areBeside) {post : Int32 → ST → Prop} (hR : RtmZ κ g 5 cX10_areBeside X post) {M : ST} {k0 n0 : Nat} {p1 : Int32} {p2 : Int32} {p3 : Int32} {a0 q0 : Nat} (hh0 : mhI g q0 k0 n0 a0) (h : wp_m_areBeside M k0 n0 p1 p2 p3 post) : Jw κ g 5 X M [(0, .ref a0), (1, .int p1), (2, .int p2), (3, .int p3)] 0 [] := by
  unfold wp_m_areBeside at h
  refine j_aload_n (pc' := 1) hκ 0 rfl rfl dX10_areBeside_0 rfl ?_
  refine j_iload_n (pc' := 2) hκ 1 rfl rfl dX10_areBeside_1 rfl ?_
  refine j_iload_n (pc' := 3) hκ 2 rfl rfl dX10_areBeside_2 rfl ?_
  refine jm_callSi (pc' := 6) hκ (c_m_placeOf (dg hκ) hh0 h) rfl rfl rfl (gS wm_24_20 wm_24_21 wm_1_5 wm_24_22) hqS_X10_placeOf ⟨Nat.le_of_ble_eq_true rfl, Nat.le_of_ble_eq_true rfl⟩ rfl rfl (Nat.le_of_ble_eq_true rfl) dX10_areBeside_3 rfl (fun r2 M1 h => ?_)
  refine j_aload_n (pc' := 7) hκ 0 rfl rfl dX10_areBeside_6 rfl ?_
  refine j_iload_n (pc' := 8) hκ 1 rfl rfl dX10_areBeside_7 rfl ?_
  refine j_iload_n (pc' := 9) hκ 3 rfl rfl dX10_areBeside_8 rfl ?_
  refine jm_callSi (pc' := 12) hκ (c_m_placeOf (dg hκ) hh0 h) rfl rfl rfl (gS wm_24_20 wm_24_21 wm_1_5 wm_24_22) hqS_X10_placeOf ⟨Nat.le_of_ble_eq_true rfl, Nat.le_of_ble_eq_true rfl⟩ rfl rfl (Nat.le_of_ble_eq_true rfl) dX10_areBeside_9 rfl (fun r4 M3 h => ?_)
  refine j_isub (pc' := 13) hκ dX10_areBeside_12 rfl ?_
  refine j_topi (fun v5 ev5 => ?_)
  replace h := h v5 ev5
  refine j_istore (pc' := 15) (lv' := [(4, .int v5), (0, .ref a0), (1, .int p1), (2, .int p2), (3, .int p3)]) hκ (Nat.le_of_ble_eq_true rfl) rfl dX10_areBeside_13 rfl ?_
  refine j_iload (pc' := 17) hκ 0 rfl dX10_areBeside_15 rfl ?_
  refine j_iconst (pc' := 18) (v := 1) hκ (by decide) dX10_areBeside_17 rfl ?_
  refine j_icmp_eq (tgt := 43) (pc' := 21) hκ dX10_areBeside_18 (by decide) rfl (fun c => ?_) (fun c => ?_)
  · replace h := h.1 c
    refine j_iconst (pc' := 44) (v := 1) hκ (by decide) dX10_areBeside_43 rfl ?_
    refine j_goto (pc' := 48) hκ (by decide) dX10_areBeside_44 ?_
    exact hR _ _ _ _ dX10_areBeside_48 (Or.inr rfl) h
  · replace h := h.2 c
    refine j_iload (pc' := 23) hκ 0 rfl dX10_areBeside_21 rfl ?_
    refine j_iconst (pc' := 24) (v := (-1)) hκ (by decide) dX10_areBeside_23 rfl ?_
    refine j_icmp_eq (tgt := 43) (pc' := 27) hκ dX10_areBeside_24 (by decide) rfl (fun c => ?_) (fun c => ?_)
    · replace h := h.1 c
      refine j_iconst (pc' := 44) (v := 1) hκ (by decide) dX10_areBeside_43 rfl ?_
      refine j_goto (pc' := 48) hκ (by decide) dX10_areBeside_44 ?_
      exact hR _ _ _ _ dX10_areBeside_48 (Or.inr rfl) h
    · replace h := h.2 c
      refine j_iload (pc' := 29) hκ 0 rfl dX10_areBeside_27 rfl ?_
      refine j_iload_n (pc' := 30) hκ 2 rfl rfl dX10_areBeside_29 rfl ?_
      refine j_iconst (pc' := 31) (v := 1) hκ (by decide) dX10_areBeside_30 rfl ?_
      refine j_isub (pc' := 32) hκ dX10_areBeside_31 rfl ?_
      refine j_icmp_eq (tgt := 43) (pc' := 35) hκ dX10_areBeside_32 (by decide) rfl (fun c => ?_) (fun c => ?_)
      · replace h := h.1 c
        refine j_iconst (pc' := 44) (v := 1) hκ (by decide) dX10_areBeside_43 rfl ?_
        refine j_goto (pc' := 48) hκ (by decide) dX10_areBeside_44 ?_
        exact hR _ _ _ _ dX10_areBeside_48 (Or.inr rfl) h
      · replace h := h.2 c
        refine j_iload (pc' := 37) hκ 0 rfl dX10_areBeside_35 rfl ?_
        refine j_iconst (pc' := 38) (v := 1) hκ (by decide) dX10_areBeside_37 rfl ?_
        refine j_iload_n (pc' := 39) hκ 2 rfl rfl dX10_areBeside_38 rfl ?_
        refine j_isub (pc' := 40) hκ dX10_areBeside_39 rfl ?_
        refine j_icmp_ne (tgt := 47) (pc' := 43) hκ dX10_areBeside_40 (by decide) rfl (fun c => ?_) (fun c => ?_)
        · replace h := h.1 c
          refine j_iconst (pc' := 48) (v := 0) hκ (by decide) dX10_areBeside_47 rfl ?_
          exact hR _ _ _ _ dX10_areBeside_48 (Or.inl rfl) h
        · replace h := h.2 c
          refine j_iconst (pc' := 44) (v := 1) hκ (by decide) dX10_areBeside_43 rfl ?_
          refine j_goto (pc' := 48) hκ (by decide) dX10_areBeside_44 ?_
          exact hR _ _ _ _ dX10_areBeside_48 (Or.inr rfl) h
theorem c_m_areBeside {g : Gx} (hg : Dg g) {X M : ST} {k0 n0 : Nat} {p1 : Int32} {p2 : Int32} {p3 : Int32} {a0 q0 : Nat} (hh0 : mhI g q0 k0 n0 a0) {post : Int32 → ST → Prop} (h : wp_m_areBeside M k0 n0 p1 p2 p3 post) (l : Launch) : Met l yX10_areBeside wq_X10_areBeside rm_m_areBeside (va_Pc [.ref a0, .int p1, .int p2, .int p3] (PU g X M)) (va_Qi post (fun Y t => va_P g.1 vwCl (ww g X Y) t.heap) (wA g)) 0 0 (wA g) :=
  met_mz hg (by decide) rfl [.ref a0, .int p1, .int p2, .int p3] rfl (Nat.le_of_ble_eq_true rfl) (fun κ hκ hR => lb_m_areBeside hκ hR hh0 h) l
theorem wm_24_17 : Cond.methodLink RX10 153 yX10_areBeside ∈ wAll := inr_24 (List.mem_of_getElem? (i := 17) rfl)
theorem wm_24_18 : Cond.static yX10_areBeside ∈ wAll := inr_24 (List.mem_of_getElem? (i := 18) rfl)
theorem wm_24_19 : Cond.code yX10_areBeside cX10_areBeside 5 (some .boolean) ∈ wAll := inr_24 (List.mem_of_getElem? (i := 19) rfl)
theorem hqS_X10_areBeside : yX10_areBeside.cls ≠ "java/lang/invoke/MethodHandle" ∧ yX10_areBeside.cls ≠ "java/lang/invoke/VarHandle" ∧ (parseMethodDescriptor yX10_areBeside.desc).map (fun d => d.parameters.length) = some 4 := by decide +kernel
theorem wm_8_5 : Cond.fieldLink RX10 69 "LampRoundModel" "written" "[I" ∈ wAll := inr_8 (List.mem_of_getElem? (i := 5) rfl)
abbrev rm_m_isWritten : Room := { frames := 0, cells := 0, slots := 0, locals := 0 }
def wp_m_isWritten_4_s (K38 : ST → Int32 → Prop) (post : Int32 → ST → Prop) (rec : ST → Int32 → Int32 → Int32 → Prop) (M : ST) (l1 : Int32) (l2 : Int32) (l3 : Int32) : Prop :=
  (l1 ≤ l3 → (K38 M l2)) ∧ (¬ l1 ≤ l3 → (vp_in l3 12 ∧ (vp_in l3 12 ∧ ((¬ (m_order M l3.toNatClampNeg) = (m_written M l3.toNatClampNeg) → (∀ v1 : Int32, v1 = l2 &&& 0 → rec M l1 v1 (l3 + 1))) ∧ ((m_order M l3.toNatClampNeg) = (m_written M l3.toNatClampNeg) → (∀ v2 : Int32, v2 = l2 &&& 1 → rec M l1 v2 (l3 + 1)))))))
def wp_m_isWritten_4 (K38 : ST → Int32 → Prop) (post : Int32 → ST → Prop) : Nat → ST → Int32 → Int32 → Int32 → Prop
  | 0 => fun _ _ _ _ => False
  | n + 1 => wp_m_isWritten_4_s K38 post (wp_m_isWritten_4 K38 post n)
set_option maxHeartbeats 4000000 in
set_option maxRecDepth 100000 in
theorem lb_m_isWritten_4 {κ : Cx} {g : Gx} {X : ST} (hκ : CF κ g RX10 cX10_isWritten wq_X10_isWritten 4 rm_m_isWritten) {post : Int32 → ST → Prop} (hR : RtmZ κ g 4 cX10_isWritten X post) {K38 : ST → Int32 → Prop} (hK38 : ∀ (M : ST) (l2 : Int32), K38 M l2 → Jw κ g 4 X M [(2, .int l2)] 38 []) : ∀ (n : Nat) (M : ST) (l1 : Int32) (l2 : Int32) (l3 : Int32), wp_m_isWritten_4 K38 post n M l1 l2 l3 → Jw κ g 4 X M [(0, .ref (g.2.1 11)), (1, .int l1), (2, .int l2), (3, .int l3)] 4 [] := by
  intro n
  induction n with
  | zero =>
    intro M l1 l2 l3  h
    exact h.elim
  | succ n ih =>
    intro M l1 l2 l3  h
    have h : wp_m_isWritten_4_s K38 post (wp_m_isWritten_4 K38 post n) M l1 l2 l3 := h
    unfold wp_m_isWritten_4_s at h
    refine j_iload_n (pc' := 5) hκ 3 rfl rfl dX10_isWritten_4 rfl ?_
    refine j_iload_n (pc' := 6) hκ 1 rfl rfl dX10_isWritten_5 rfl ?_
    refine j_icmp_ge (tgt := 38) (pc' := 9) hκ dX10_isWritten_6 (by decide) rfl (fun c => ?_) (fun c => ?_)
    · replace h := h.1 c
      refine j_sub [2] rfl ?_
      exact hK38 _ _  h
    · replace h := h.2 c
      refine j_iload_n (pc' := 10) hκ 2 rfl rfl dX10_isWritten_9 rfl ?_
      refine j_aload_n (pc' := 11) hκ 0 rfl rfl dX10_isWritten_10 rfl ?_
      refine jg_11_21 (pc' := 14) hκ (mi inlX10) (fl_in hκ (mc wm_8_3)) dX10_isWritten_11 rfl ?_
      refine j_iload_n (pc' := 15) hκ 3 rfl rfl dX10_isWritten_14 rfl ?_
      refine jm_iald (pc' := 16) hκ (ah_64 g) h.1 dX10_isWritten_15 rfl ?_
      replace h := h.2
      refine j_aload_n (pc' := 17) hκ 0 rfl rfl dX10_isWritten_16 rfl ?_
      refine jg_11_23 (pc' := 20) hκ (mi inlX10) (fl_in hκ (mc wm_8_5)) dX10_isWritten_17 rfl ?_
      refine j_iload_n (pc' := 21) hκ 3 rfl rfl dX10_isWritten_20 rfl ?_
      refine jm_iald (pc' := 22) hκ (ah_66 g) h.1 dX10_isWritten_21 rfl ?_
      replace h := h.2
      refine j_icmp_ne (tgt := 29) (pc' := 25) hκ dX10_isWritten_22 (by decide) rfl (fun c => ?_) (fun c => ?_)
      · replace h := h.1 c
        refine j_iconst (pc' := 30) (v := 0) hκ (by decide) dX10_isWritten_29 rfl ?_
        refine j_iand (pc' := 31) hκ dX10_isWritten_30 rfl ?_
        refine j_topi (fun v1 ev1 => ?_)
        replace h := h v1 ev1
        refine j_istore_n (pc' := 32) (lv' := [(2, .int v1), (0, .ref (g.2.1 11)), (1, .int l1), (3, .int l3)]) hκ (Nat.le_of_ble_eq_true rfl) rfl rfl dX10_isWritten_31 rfl ?_
        refine j_iinc (pc' := 35) (v := l3 + 1) (lv' := [(3, .int (l3 + 1)), (2, .int v1), (0, .ref (g.2.1 11)), (1, .int l1)]) hκ 3 rfl rfl (Nat.le_of_ble_eq_true rfl) rfl dX10_isWritten_32 rfl ?_
        refine j_goto (pc' := 4) hκ (by decide) dX10_isWritten_35 ?_
        refine j_sub [2, 3, 1, 0] rfl ?_
        exact ih _ _ _ _  h
      · replace h := h.2 c
        refine j_iconst (pc' := 26) (v := 1) hκ (by decide) dX10_isWritten_25 rfl ?_
        refine j_goto (pc' := 30) hκ (by decide) dX10_isWritten_26 ?_
        refine j_iand (pc' := 31) hκ dX10_isWritten_30 rfl ?_
        refine j_topi (fun v2 ev2 => ?_)
        replace h := h v2 ev2
        refine j_istore_n (pc' := 32) (lv' := [(2, .int v2), (0, .ref (g.2.1 11)), (1, .int l1), (3, .int l3)]) hκ (Nat.le_of_ble_eq_true rfl) rfl rfl dX10_isWritten_31 rfl ?_
        refine j_iinc (pc' := 35) (v := l3 + 1) (lv' := [(3, .int (l3 + 1)), (2, .int v2), (0, .ref (g.2.1 11)), (1, .int l1)]) hκ 3 rfl rfl (Nat.le_of_ble_eq_true rfl) rfl dX10_isWritten_32 rfl ?_
        refine j_goto (pc' := 4) hκ (by decide) dX10_isWritten_35 ?_
        refine j_sub [2, 3, 1, 0] rfl ?_
        exact ih _ _ _ _  h
def wp_m_isWritten (M : ST) (p1 : Int32) (post : Int32 → ST → Prop) : Prop :=
  ∃ n, wp_m_isWritten_4 (fun M3 v4 => bz v4 ∧ post v4 M3) post n M p1 1 0
set_option maxHeartbeats 4000000 in
set_option maxRecDepth 100000 in
theorem lb_m_isWritten {κ : Cx} {g : Gx} {X : ST} (hκ : CF κ g RX10 cX10_isWritten wq_X10_isWritten 4 rm_m_isWritten) {post : Int32 → ST → Prop} (hR : RtmZ κ g 4 cX10_isWritten X post) {M : ST} {p1 : Int32} (h : wp_m_isWritten M p1 post) : Jw κ g 4 X M [(0, .ref (g.2.1 11)), (1, .int p1)] 0 [] := by
  unfold wp_m_isWritten at h
  refine j_iconst (pc' := 1) (v := 1) hκ (by decide) dX10_isWritten_0 rfl ?_
  refine j_istore_n (pc' := 2) (lv' := [(2, .int 1), (0, .ref (g.2.1 11)), (1, .int p1)]) hκ (Nat.le_of_ble_eq_true rfl) rfl rfl dX10_isWritten_1 rfl ?_
  refine j_iconst (pc' := 3) (v := 0) hκ (by decide) dX10_isWritten_2 rfl ?_
  refine j_istore_n (pc' := 4) (lv' := [(3, .int 0), (2, .int 1), (0, .ref (g.2.1 11)), (1, .int p1)]) hκ (Nat.le_of_ble_eq_true rfl) rfl rfl dX10_isWritten_3 rfl ?_
  obtain ⟨n, h⟩ := h
  refine j_sub [2, 3, 1, 0] rfl ?_
  refine lb_m_isWritten_4 hκ hR ?_ n _ _ _ _  h
  intro M3 v4  h
  refine j_iload_n (pc' := 39) hκ 0 rfl rfl dX10_isWritten_38 rfl ?_
  exact hR _ _ _ _ dX10_isWritten_39 h.1 h.2
theorem c_m_isWritten {g : Gx} (hg : Dg g) {X M : ST} {p1 : Int32} {post : Int32 → ST → Prop} (h : wp_m_isWritten M p1 post) (l : Launch) : Met l yX10_isWritten wq_X10_isWritten rm_m_isWritten (va_Pc [.ref (g.2.1 11), .int p1] (PU g X M)) (va_Qi post (fun Y t => va_P g.1 vwCl (ww g X Y) t.heap) (wA g)) 0 0 (wA g) :=
  met_mz hg (by decide) rfl [.ref (g.2.1 11), .int p1] rfl (Nat.le_of_ble_eq_true rfl) (fun κ hκ hR => lb_m_isWritten hκ hR h) l
