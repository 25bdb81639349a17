theorem wm_42_20 : Cond.methodLink RX10 270 yX10_stands ∈ wAll := inr_42 (List.mem_of_getElem? (i := 20) rfl)
theorem wm_42_21 : Cond.instanceMethod yX10_stands ∈ wAll := inr_42 (List.mem_of_getElem? (i := 21) rfl)
theorem wm_42_22 : Cond.selects RX10 yX10_stands yX10_stands ∈ wAll := inr_42 (List.mem_of_getElem? (i := 22) rfl)
theorem wm_42_23 : Cond.code yX10_stands cX10_stands 5 (some .boolean) ∈ wAll := inr_42 (List.mem_of_getElem? (i := 23) rfl)
theorem hqV_X10_stands : yX10_stands.cls = RX10 ∧ yX10_stands.cls ≠ "java/lang/invoke/MethodHandle" ∧ yX10_stands.cls ≠ "java/lang/invoke/VarHandle" ∧ (parseMethodDescriptor yX10_stands.desc).map (fun d => d.parameters.length) = some 4 := by decide +kernel
abbrev rm_m_ending : Room := { frames := 6, cells := 0, slots := 0, locals := 144 }
def wp_m_ending_2_s (K24 : ST → Int32 → Prop) (K36 : ST → Int32 → Prop) (post : Int32 → ST → Prop) (rec : ST → Int32 → Int32 → Prop) (M : ST) (l1 : Int32) (l2 : Int32) : Prop :=
  (144 ≤ l2 → (K36 M l1)) ∧ (¬ 144 ≤ l2 → (wp_m_isTwins M (l2 / 12) (l2 - l2 / 12 * 12) (fun r2 M1 => (r2 = 0 → (rec M1 l1 (l2 + 1))) ∧ (¬ r2 = 0 → (K24 M1 l2)))))
def wp_m_ending_2 (K24 : ST → Int32 → Prop) (K36 : ST → Int32 → Prop) (post : Int32 → ST → Prop) : Nat → ST → Int32 → Int32 → Prop
  | 0 => fun _ _ _ => False
  | n + 1 => wp_m_ending_2_s K24 K36 post (wp_m_ending_2 K24 K36 post n)
set_option maxHeartbeats 4000000 in
set_option maxRecDepth 100000 in
theorem lb_m_ending_2 {κ : Cx} {g : Gx} {X : ST} (hκ : CF κ g RX10 cX10_ending wq_X10_ending 4 rm_m_ending) {post : Int32 → ST → Prop} (hR : RtmI κ g 4 cX10_ending X post) {K24 : ST → Int32 → Prop} {K36 : ST → Int32 → Prop} (hK24 : ∀ (M : ST) (l2 : Int32), K24 M l2 → Jw κ g 4 X M [(2, .int l2)] 24 []) (hK36 : ∀ (M : ST) (l1 : Int32), K36 M l1 → Jw κ g 4 X M [(0, .ref (g.2.1 11)), (1, .int l1)] 36 []) : ∀ (n : Nat) (M : ST) (l1 : Int32) (l2 : Int32), wp_m_ending_2 K24 K36 post n M l1 l2 → Jw κ g 4 X M [(0, .ref (g.2.1 11)), (1, .int l1), (2, .int l2)] 2 [] := by
  intro n
  induction n with
  | zero =>
    intro M l1 l2  h
    exact h.elim
  | succ n ih =>
    intro M l1 l2  h
    have h : wp_m_ending_2_s K24 K36 post (wp_m_ending_2 K24 K36 post n) M l1 l2 := h
    unfold wp_m_ending_2_s at h
    refine j_iload_n (pc' := 3) hκ 2 rfl rfl dX10_ending_2 rfl ?_
    refine j_sipush (pc' := 6) (v := 144) hκ (by decide) dX10_ending_3 rfl ?_
    refine j_icmp_ge (tgt := 36) (pc' := 9) hκ dX10_ending_6 (by decide) rfl (fun c => ?_) (fun c => ?_)
    · replace h := h.1 c
      refine j_sub [0, 1] rfl ?_
      exact hK36 _ _  h
    · replace h := h.2 c
      refine j_aload_n (pc' := 10) hκ 0 rfl rfl dX10_ending_9 rfl ?_
      refine j_iload_n (pc' := 11) hκ 2 rfl rfl dX10_ending_10 rfl ?_
      refine j_bipush (pc' := 13) (v := 12) hκ (by decide) dX10_ending_11 rfl ?_
      refine j_idiv (pc' := 14) hκ (by decide) dX10_ending_13 rfl ?_
      refine j_iload_n (pc' := 15) hκ 2 rfl rfl dX10_ending_14 rfl ?_
      refine j_bipush (pc' := 17) (v := 12) hκ (by decide) dX10_ending_15 rfl ?_
      refine j_irem (pc' := 18) hκ (by decide) dX10_ending_17 rfl ?_
      refine jm_callVi (pc' := 21) hκ (c_m_isTwins (dg hκ) h) rfl rfl rfl (gV wm_42_13 wm_42_14 wm_42_15 wm_1_5 wm_42_16) hqV_X10_isTwins ⟨Nat.le_of_ble_eq_true rfl, Nat.le_of_ble_eq_true rfl⟩ (wg_11 g _ _) rfl rfl rfl (Nat.le_of_ble_eq_true rfl) dX10_ending_18 rfl (fun r2 M1 h => ?_)
      refine j_if_eq (tgt := 30) (pc' := 24) hκ dX10_ending_21 (by decide) rfl (fun c => ?_) (fun c => ?_)
      · replace h := h.1 c
        refine j_iinc (pc' := 33) (v := l2 + 1) (lv' := [(2, .int (l2 + 1)), (0, .ref (g.2.1 11)), (1, .int l1)]) hκ 2 rfl rfl (Nat.le_of_ble_eq_true rfl) rfl dX10_ending_30 rfl ?_
        refine j_goto (pc' := 2) hκ (by decide) dX10_ending_33 ?_
        refine j_sub [1, 2, 0] rfl ?_
        exact ih _ _ _  h
      · replace h := h.2 c
        refine j_sub [2] rfl ?_
        exact hK24 _ _  h
def wp_m_ending_45_s (K64 : ST → Int32 → Int32 → Prop) (K81 : ST → Int32 → Int32 → Prop) (post : Int32 → ST → Prop) (rec : ST → Int32 → Int32 → Int32 → Prop) (M : ST) (l1 : Int32) (l2 : Int32) (l3 : Int32) : Prop :=
  ((m_lamps M) ≤ l3 → (K81 M l1 l2)) ∧ (¬ (m_lamps M) ≤ l3 → (wp_m_stands M l2 l3 0 l1 (fun r8 M7 => (r8 = 0 → (rec M7 l1 l2 (l3 + 1))) ∧ (¬ r8 = 0 → (K64 M7 l2 l3)))))
def wp_m_ending_45 (K64 : ST → Int32 → Int32 → Prop) (K81 : ST → Int32 → Int32 → Prop) (post : Int32 → ST → Prop) : Nat → ST → Int32 → Int32 → Int32 → Prop
  | 0 => fun _ _ _ _ => False
  | n + 1 => wp_m_ending_45_s K64 K81 post (wp_m_ending_45 K64 K81 post n)
set_option maxHeartbeats 4000000 in
set_option maxRecDepth 100000 in
theorem lb_m_ending_45 {κ : Cx} {g : Gx} {X : ST} (hκ : CF κ g RX10 cX10_ending wq_X10_ending 4 rm_m_ending) {post : Int32 → ST → Prop} (hR : RtmI κ g 4 cX10_ending X post) {K64 : ST → Int32 → Int32 → Prop} {K81 : ST → Int32 → Int32 → Prop} (hK64 : ∀ (M : ST) (l2 : Int32) (l3 : Int32), K64 M l2 l3 → Jw κ g 4 X M [(2, .int l2), (3, .int l3)] 64 []) (hK81 : ∀ (M : ST) (l1 : Int32) (l2 : Int32), K81 M l1 l2 → Jw κ g 4 X M [(0, .ref (g.2.1 11)), (1, .int l1), (2, .int l2)] 81 []) : ∀ (n : Nat) (M : ST) (l1 : Int32) (l2 : Int32) (l3 : Int32), wp_m_ending_45 K64 K81 post n M l1 l2 l3 → Jw κ g 4 X M [(0, .ref (g.2.1 11)), (1, .int l1), (2, .int l2), (3, .int l3)] 45 [] := by
  intro n
  induction n with
  | zero =>
    intro M l1 l2 l3  h
    exact h.elim
  | succ n ih =>
    intro M l1 l2 l3  h
    have h : wp_m_ending_45_s K64 K81 post (wp_m_ending_45 K64 K81 post n) M l1 l2 l3 := h
    unfold wp_m_ending_45_s at h
    refine j_iload_n (pc' := 46) hκ 3 rfl rfl dX10_ending_45 rfl ?_
    refine j_aload_n (pc' := 47) hκ 0 rfl rfl dX10_ending_46 rfl ?_
    refine jg_11_9 (pc' := 50) hκ (mi inlX10) (fl_in hκ (mc wm_17_13)) dX10_ending_47 rfl ?_
    refine j_icmp_ge (tgt := 81) (pc' := 53) hκ dX10_ending_50 (by decide) rfl (fun c => ?_) (fun c => ?_)
    · replace h := h.1 c
      refine j_sub [0, 1, 2] rfl ?_
      exact hK81 _ _ _  h
    · replace h := h.2 c
      refine j_aload_n (pc' := 54) hκ 0 rfl rfl dX10_ending_53 rfl ?_
      refine j_iload_n (pc' := 55) hκ 2 rfl rfl dX10_ending_54 rfl ?_
      refine j_iload_n (pc' := 56) hκ 3 rfl rfl dX10_ending_55 rfl ?_
      refine j_iconst (pc' := 57) (v := 0) hκ (by decide) dX10_ending_56 rfl ?_
      refine j_iload_n (pc' := 58) hκ 1 rfl rfl dX10_ending_57 rfl ?_
      refine jm_callVi (pc' := 61) hκ (c_m_stands (dg hκ) h) rfl rfl rfl (gV wm_42_20 wm_42_21 wm_42_22 wm_1_5 wm_42_23) hqV_X10_stands ⟨Nat.le_of_ble_eq_true rfl, Nat.le_of_ble_eq_true rfl⟩ (wg_11 g _ _) rfl rfl rfl (Nat.le_of_ble_eq_true rfl) dX10_ending_58 rfl (fun r8 M7 h => ?_)
      refine j_if_eq (tgt := 75) (pc' := 64) hκ dX10_ending_61 (by decide) rfl (fun c => ?_) (fun c => ?_)
      · replace h := h.1 c
        refine j_iinc (pc' := 78) (v := l3 + 1) (lv' := [(3, .int (l3 + 1)), (0, .ref (g.2.1 11)), (1, .int l1), (2, .int l2)]) hκ 3 rfl rfl (Nat.le_of_ble_eq_true rfl) rfl dX10_ending_75 rfl ?_
        refine j_goto (pc' := 45) hκ (by decide) dX10_ending_78 ?_
        refine j_sub [1, 2, 3, 0] rfl ?_
        exact ih _ _ _ _  h
      · replace h := h.2 c
        refine j_sub [2, 3] rfl ?_
        exact hK64 _ _ _  h
def wp_m_ending_38_s (K64 : ST → Int32 → Int32 → Prop) (K87 : ST → Int32 → Prop) (post : Int32 → ST → Prop) (rec : ST → Int32 → Int32 → Prop) (M : ST) (l1 : Int32) (l2 : Int32) : Prop :=
  (5 < l2 → (K87 M l1)) ∧ (¬ 5 < l2 → (∃ n, wp_m_ending_45 K64 (fun M9 v10 v11 => rec M9 v10 (v11 + 1)) post n M l1 l2 0))
def wp_m_ending_38 (K64 : ST → Int32 → Int32 → Prop) (K87 : ST → Int32 → Prop) (post : Int32 → ST → Prop) : Nat → ST → Int32 → Int32 → Prop
  | 0 => fun _ _ _ => False
  | n + 1 => wp_m_ending_38_s K64 K87 post (wp_m_ending_38 K64 K87 post n)
set_option maxHeartbeats 4000000 in
set_option maxRecDepth 100000 in
theorem lb_m_ending_38 {κ : Cx} {g : Gx} {X : ST} (hκ : CF κ g RX10 cX10_ending wq_X10_ending 4 rm_m_ending) {post : Int32 → ST → Prop} (hR : RtmI κ g 4 cX10_ending X post) {K64 : ST → Int32 → Int32 → Prop} {K87 : ST → Int32 → Prop} (hK64 : ∀ (M : ST) (l2 : Int32) (l3 : Int32), K64 M l2 l3 → Jw κ g 4 X M [(2, .int l2), (3, .int l3)] 64 []) (hK87 : ∀ (M : ST) (l1 : Int32), K87 M l1 → Jw κ g 4 X M [(0, .ref (g.2.1 11)), (1, .int l1)] 87 []) : ∀ (n : Nat) (M : ST) (l1 : Int32) (l2 : Int32), wp_m_ending_38 K64 K87 post n M l1 l2 → Jw κ g 4 X M [(0, .ref (g.2.1 11)), (1, .int l1), (2, .int l2)] 38 [] := by
  intro n
  induction n with
  | zero =>
    intro M l1 l2  h
    exact h.elim
  | succ n ih =>
    intro M l1 l2  h
    have h : wp_m_ending_38_s K64 K87 post (wp_m_ending_38 K64 K87 post n) M l1 l2 := h
    unfold wp_m_ending_38_s at h
    refine j_iload_n (pc' := 39) hκ 2 rfl rfl dX10_ending_38 rfl ?_
    refine j_iconst (pc' := 40) (v := 5) hκ (by decide) dX10_ending_39 rfl ?_
    refine j_icmp_gt (tgt := 87) (pc' := 43) hκ dX10_ending_40 (by decide) rfl (fun c => ?_) (fun c => ?_)
    · replace h := h.1 c
      refine j_sub [0, 1] rfl ?_
      exact hK87 _ _  h
    · replace h := h.2 c
      refine j_iconst (pc' := 44) (v := 0) hκ (by decide) dX10_ending_43 rfl ?_
      refine j_istore_n (pc' := 45) (lv' := [(3, .int 0), (0, .ref (g.2.1 11)), (1, .int l1), (2, .int l2)]) hκ (Nat.le_of_ble_eq_true rfl) rfl rfl dX10_ending_44 rfl ?_
      obtain ⟨n, h⟩ := h
      refine j_sub [1, 2, 3, 0] rfl ?_
      refine lb_m_ending_45 hκ hR hK64 ?_ n _ _ _ _  h
      intro M9 v10 v11  h
      refine j_iinc (pc' := 84) (v := v11 + 1) (lv' := [(2, .int (v11 + 1)), (0, .ref (g.2.1 11)), (1, .int v10)]) hκ 2 rfl rfl (Nat.le_of_ble_eq_true rfl) rfl dX10_ending_81 rfl ?_
      refine j_goto (pc' := 38) hκ (by decide) dX10_ending_84 ?_
      refine j_sub [1, 2, 0] rfl ?_
      exact ih _ _ _  h
def wp_m_ending (M : ST) (p1 : Int32) (post : Int32 → ST → Prop) : Prop :=
  ∃ n, wp_m_ending_2 (fun M3 v4 => post (6000 + v4) M3) (fun M5 v6 => ∃ n, wp_m_ending_38 (fun M12 v13 v14 => post ((1000 * v13) + (12 * v14)) M12) (fun M15 v16 => wp_m_tree M15 (fun r18 M17 => (r18 < (v16.toInt64) → (post 0 M17)) ∧ (¬ r18 < (v16.toInt64) → (post 2000 M17)))) post n M5 v6 3) post n M p1 0
set_option maxHeartbeats 4000000 in
set_option maxRecDepth 100000 in
theorem lb_m_ending {κ : Cx} {g : Gx} {X : ST} (hκ : CF κ g RX10 cX10_ending wq_X10_ending 4 rm_m_ending) {post : Int32 → ST → Prop} (hR : RtmI κ g 4 cX10_ending X post) {M : ST} {p1 : Int32} (h : wp_m_ending M p1 post) : Jw κ g 4 X M [(0, .ref (g.2.1 11)), (1, .int p1)] 0 [] := by
  unfold wp_m_ending at h
  refine j_iconst (pc' := 1) (v := 0) hκ (by decide) dX10_ending_0 rfl ?_
  refine j_istore_n (pc' := 2) (lv' := [(2, .int 0), (0, .ref (g.2.1 11)), (1, .int p1)]) hκ (Nat.le_of_ble_eq_true rfl) rfl rfl dX10_ending_1 rfl ?_
  obtain ⟨n, h⟩ := h
  refine j_sub [1, 2, 0] rfl ?_
  refine lb_m_ending_2 hκ hR ?_ ?_ n _ _ _  h
  · intro M3 v4  h
    refine j_sipush (pc' := 27) (v := 6000) hκ (by decide) dX10_ending_24 rfl ?_
    refine j_iload_n (pc' := 28) hκ 0 rfl rfl dX10_ending_27 rfl ?_
    refine j_iadd (pc' := 29) hκ dX10_ending_28 rfl ?_
    exact hR _ _ _ _ dX10_ending_29 h
  · intro M5 v6  h
    refine j_iconst (pc' := 37) (v := 3) hκ (by decide) dX10_ending_36 rfl ?_
    refine j_istore_n (pc' := 38) (lv' := [(2, .int 3), (0, .ref (g.2.1 11)), (1, .int v6)]) hκ (Nat.le_of_ble_eq_true rfl) rfl rfl dX10_ending_37 rfl ?_
    obtain ⟨n, h⟩ := h
    refine j_sub [1, 2, 0] rfl ?_
    refine lb_m_ending_38 hκ hR ?_ ?_ n _ _ _  h
    · intro M12 v13 v14  h
      refine j_sipush (pc' := 67) (v := 1000) hκ (by decide) dX10_ending_64 rfl ?_
      refine j_iload_n (pc' := 68) hκ 0 rfl rfl dX10_ending_67 rfl ?_
      refine j_imul (pc' := 69) hκ dX10_ending_68 rfl ?_
      refine j_bipush (pc' := 71) (v := 12) hκ (by decide) dX10_ending_69 rfl ?_
      refine j_iload_n (pc' := 72) hκ 1 rfl rfl dX10_ending_71 rfl ?_
      refine j_imul (pc' := 73) hκ dX10_ending_72 rfl ?_
      refine j_iadd (pc' := 74) hκ dX10_ending_73 rfl ?_
      exact hR _ _ _ _ dX10_ending_74 h
    · intro M15 v16  h
      refine j_aload_n (pc' := 88) hκ 0 rfl rfl dX10_ending_87 rfl ?_
      refine jm_callVl (pc' := 91) hκ (c_m_tree (dg hκ) h) rfl rfl rfl (gV wm_36_6 wm_36_7 wm_36_8 wm_1_5 wm_36_9) hqV_X10_tree ⟨Nat.le_of_ble_eq_true rfl, Nat.le_of_ble_eq_true rfl⟩ (wg_11 g _ _) rfl rfl rfl (Nat.le_of_ble_eq_true rfl) dX10_ending_88 rfl (fun r18 M17 h => ?_)
      refine j_iload_n (pc' := 92) hκ 1 rfl rfl dX10_ending_91 rfl ?_
      refine j_i2l (pc' := 93) hκ dX10_ending_92 rfl ?_
      refine j_lc_lt (tgt := 103) (pc1 := 94) (pc' := 97) hκ dX10_ending_93 rfl dX10_ending_94 (by decide) rfl (fun c => ?_) (fun c => ?_)
      · replace h := h.1 c
        refine j_iconst (pc' := 104) (v := 0) hκ (by decide) dX10_ending_103 rfl ?_
        exact hR _ _ _ _ dX10_ending_104 h
      · replace h := h.2 c
        refine j_sipush (pc' := 100) (v := 2000) hκ (by decide) dX10_ending_97 rfl ?_
        refine j_goto (pc' := 104) hκ (by decide) dX10_ending_100 ?_
        exact hR _ _ _ _ dX10_ending_104 h
theorem c_m_ending {g : Gx} (hg : Dg g) {X M : ST} {p1 : Int32} {post : Int32 → ST → Prop} (h : wp_m_ending M p1 post) (l : Launch) : Met l yX10_ending wq_X10_ending rm_m_ending (va_Pc [.ref (g.2.1 11), .int p1] (PU g X M)) (va_Qi post (fun Y t => va_P g.1 vwCl (ww g X Y) t.heap) (wA g)) 0 0 (wA g) :=
  met_mi hg (by decide) rfl [.ref (g.2.1 11), .int p1] rfl (Nat.le_of_ble_eq_true rfl) (fun κ hκ hR => lb_m_ending hκ hR h) l
theorem wm_42_9 : Cond.methodLink RX10 277 yX10_ending ∈ wAll := inr_42 (List.mem_of_getElem? (i := 9) rfl)
theorem wm_42_10 : Cond.instanceMethod yX10_ending ∈ wAll := inr_42 (List.mem_of_getElem? (i := 10) rfl)
theorem wm_42_11 : Cond.selects RX10 yX10_ending yX10_ending ∈ wAll := inr_42 (List.mem_of_getElem? (i := 11) rfl)
theorem wm_42_12 : Cond.code yX10_ending cX10_ending 4 (some .int) ∈ wAll := inr_42 (List.mem_of_getElem? (i := 12) rfl)
theorem hqV_X10_ending : yX10_ending.cls = RX10 ∧ yX10_ending.cls ≠ "java/lang/invoke/MethodHandle" ∧ yX10_ending.cls ≠ "java/lang/invoke/VarHandle" ∧ (parseMethodDescriptor yX10_ending.desc).map (fun d => d.parameters.length) = some 1 := by decide +kernel
abbrev rm_m_freePair : Room := { frames := 3, cells := 0, slots := 0, locals := 63 }
def wp_m_freePair_92 (K4 : ST → Int32 → Int32 → Prop) (post : Int32 → ST → Prop) (M : ST) (l1 : Int32) (l2 : Int32) (s0 : Int32) : Prop :=
  (s0 = 0 → (K4 M l1 (l2 + 1))) ∧ (¬ s0 = 0 → (K4 M l2 (l2 + 1)))
set_option maxHeartbeats 4000000 in
set_option maxRecDepth 100000 in
theorem lb_m_freePair_92 {κ : Cx} {g : Gx} {X : ST} (hκ : CF κ g RX10 cX10_freePair wq_X10_freePair 4 rm_m_freePair) {post : Int32 → ST → Prop} (hR : RtmI κ g 4 cX10_freePair X post) {K4 : ST → Int32 → Int32 → Prop} (hK4 : ∀ (M : ST) (l1 : Int32) (l2 : Int32), K4 M l1 l2 → Jw κ g 4 X M [(0, .ref (g.2.1 11)), (1, .int l1), (2, .int l2)] 4 []) : ∀ (M : ST) (l1 : Int32) (l2 : Int32) (s0 : Int32), wp_m_freePair_92 K4 post M l1 l2 s0 → Jw κ g 4 X M [(0, .ref (g.2.1 11)), (1, .int l1), (2, .int l2)] 92 [.int s0] := by
  intro M l1 l2 s0  h
  unfold wp_m_freePair_92 at h
  refine j_istore_n (pc' := 93) (lv' := [(3, .int s0), (0, .ref (g.2.1 11)), (1, .int l1), (2, .int l2)]) hκ (Nat.le_of_ble_eq_true rfl) rfl rfl dX10_freePair_92 rfl ?_
  refine j_iload_n (pc' := 94) hκ 0 rfl rfl dX10_freePair_93 rfl ?_
  refine j_if_eq (tgt := 101) (pc' := 97) hκ dX10_freePair_94 (by decide) rfl (fun c => ?_) (fun c => ?_)
  · replace h := h.1 c
    refine j_iload_n (pc' := 102) hκ 2 rfl rfl dX10_freePair_101 rfl ?_
    refine j_istore_n (pc' := 103) (lv' := [(1, .int l1), (3, .int s0), (0, .ref (g.2.1 11)), (2, .int l2)]) hκ (Nat.le_of_ble_eq_true rfl) rfl rfl dX10_freePair_102 rfl ?_
    refine j_iinc (pc' := 106) (v := l2 + 1) (lv' := [(2, .int (l2 + 1)), (1, .int l1), (3, .int s0), (0, .ref (g.2.1 11))]) hκ 3 rfl rfl (Nat.le_of_ble_eq_true rfl) rfl dX10_freePair_103 rfl ?_
    refine j_goto (pc' := 4) hκ (by decide) dX10_freePair_106 ?_
    refine j_sub [3, 1, 0] rfl ?_
    exact hK4 _ _ _  h
  · replace h := h.2 c
    refine j_iload_n (pc' := 98) hκ 3 rfl rfl dX10_freePair_97 rfl ?_
    refine j_goto (pc' := 102) hκ (by decide) dX10_freePair_98 ?_
    refine j_istore_n (pc' := 103) (lv' := [(1, .int l2), (3, .int s0), (0, .ref (g.2.1 11)), (2, .int l2)]) hκ (Nat.le_of_ble_eq_true rfl) rfl rfl dX10_freePair_102 rfl ?_
    refine j_iinc (pc' := 106) (v := l2 + 1) (lv' := [(2, .int (l2 + 1)), (1, .int l2), (3, .int s0), (0, .ref (g.2.1 11))]) hκ 3 rfl rfl (Nat.le_of_ble_eq_true rfl) rfl dX10_freePair_103 rfl ?_
    refine j_goto (pc' := 4) hκ (by decide) dX10_freePair_106 ?_
    refine j_sub [3, 1, 0] rfl ?_
    exact hK4 _ _ _  h
def wp_m_freePair_57 (K4 : ST → Int32 → Int32 → Prop) (post : Int32 → ST → Prop) (M : ST) (l1 : Int32) (l2 : Int32) : Prop :=
  wp_m_freePair_92 K4 post M l1 l2 1
set_option maxHeartbeats 4000000 in
set_option maxRecDepth 100000 in
theorem lb_m_freePair_57 {κ : Cx} {g : Gx} {X : ST} (hκ : CF κ g RX10 cX10_freePair wq_X10_freePair 4 rm_m_freePair) {post : Int32 → ST → Prop} (hR : RtmI κ g 4 cX10_freePair X post) {K4 : ST → Int32 → Int32 → Prop} (hK4 : ∀ (M : ST) (l1 : Int32) (l2 : Int32), K4 M l1 l2 → Jw κ g 4 X M [(0, .ref (g.2.1 11)), (1, .int l1), (2, .int l2)] 4 []) : ∀ (M : ST) (l1 : Int32) (l2 : Int32), wp_m_freePair_57 K4 post M l1 l2 → Jw κ g 4 X M [(0, .ref (g.2.1 11)), (1, .int l1), (2, .int l2)] 57 [] := by
  intro M l1 l2  h
  unfold wp_m_freePair_57 at h
  refine j_iconst (pc' := 58) (v := 1) hκ (by decide) dX10_freePair_57 rfl ?_
  refine j_goto (pc' := 92) hκ (by decide) dX10_freePair_58 ?_
  refine lb_m_freePair_92 hκ hR hK4 _ _ _ _  h
def wp_m_freePair_45 (K4 : ST → Int32 → Int32 → Prop) (post : Int32 → ST → Prop) (M : ST) (l1 : Int32) (l2 : Int32) : Prop :=
  (l1 < 0 → (wp_m_freePair_57 K4 post M l1 l2)) ∧ (¬ l1 < 0 → (wp_m_hasWay M l2 (fun r4 M3 => (r4 = 0 → (wp_m_freePair_92 K4 post M3 l1 l2 0)) ∧ (¬ r4 = 0 → (wp_m_freePair_57 K4 post M3 l1 l2)))))
set_option maxHeartbeats 4000000 in
set_option maxRecDepth 100000 in
theorem lb_m_freePair_45 {κ : Cx} {g : Gx} {X : ST} (hκ : CF κ g RX10 cX10_freePair wq_X10_freePair 4 rm_m_freePair) {post : Int32 → ST → Prop} (hR : RtmI κ g 4 cX10_freePair X post) {K4 : ST → Int32 → Int32 → Prop} (hK4 : ∀ (M : ST) (l1 : Int32) (l2 : Int32), K4 M l1 l2 → Jw κ g 4 X M [(0, .ref (g.2.1 11)), (1, .int l1), (2, .int l2)] 4 []) : ∀ (M : ST) (l1 : Int32) (l2 : Int32), wp_m_freePair_45 K4 post M l1 l2 → Jw κ g 4 X M [(0, .ref (g.2.1 11)), (1, .int l1), (2, .int l2)] 45 [] := by
  intro M l1 l2  h
  unfold wp_m_freePair_45 at h
  refine j_iload_n (pc' := 46) hκ 1 rfl rfl dX10_freePair_45 rfl ?_
  refine j_if_lt (tgt := 57) (pc' := 49) hκ dX10_freePair_46 (by decide) rfl (fun c => ?_) (fun c => ?_)
  · replace h := h.1 c
    refine lb_m_freePair_57 hκ hR hK4 _ _ _  h
  · replace h := h.2 c
    refine j_aload_n (pc' := 50) hκ 0 rfl rfl dX10_freePair_49 rfl ?_
    refine j_iload_n (pc' := 51) hκ 2 rfl rfl dX10_freePair_50 rfl ?_
    refine jm_callVi (pc' := 54) hκ (c_m_hasWay (dg hκ) h) rfl rfl rfl (gV wm_36_23 wm_37_0 wm_37_1 wm_1_5 wm_37_2) hqV_X10_hasWay ⟨Nat.le_of_ble_eq_true rfl, Nat.le_of_ble_eq_true rfl⟩ (wg_11 g _ _) rfl rfl rfl (Nat.le_of_ble_eq_true rfl) dX10_freePair_51 rfl (fun r4 M3 h => ?_)
    refine j_if_eq (tgt := 61) (pc' := 57) hκ dX10_freePair_54 (by decide) rfl (fun c => ?_) (fun c => ?_)
    · replace h := h.1 c
      refine j_iconst (pc' := 62) (v := 0) hκ (by decide) dX10_freePair_61 rfl ?_
      refine j_goto (pc' := 92) hκ (by decide) dX10_freePair_62 ?_
      refine lb_m_freePair_92 hκ hR hK4 _ _ _ _  h
    · replace h := h.2 c
      refine lb_m_freePair_57 hκ hR hK4 _ _ _  h
def wp_m_freePair_91 (K4 : ST → Int32 → Int32 → Prop) (post : Int32 → ST → Prop) (M : ST) (l1 : Int32) (l2 : Int32) : Prop :=
  wp_m_freePair_92 K4 post M l1 l2 0
set_option maxHeartbeats 4000000 in
set_option maxRecDepth 100000 in
theorem lb_m_freePair_91 {κ : Cx} {g : Gx} {X : ST} (hκ : CF κ g RX10 cX10_freePair wq_X10_freePair 4 rm_m_freePair) {post : Int32 → ST → Prop} (hR : RtmI κ g 4 cX10_freePair X post) {K4 : ST → Int32 → Int32 → Prop} (hK4 : ∀ (M : ST) (l1 : Int32) (l2 : Int32), K4 M l1 l2 → Jw κ g 4 X M [(0, .ref (g.2.1 11)), (1, .int l1), (2, .int l2)] 4 []) : ∀ (M : ST) (l1 : Int32) (l2 : Int32), wp_m_freePair_91 K4 post M l1 l2 → Jw κ g 4 X M [(0, .ref (g.2.1 11)), (1, .int l1), (2, .int l2)] 91 [] := by
  intro M l1 l2  h
  unfold wp_m_freePair_91 at h
  refine j_iconst (pc' := 92) (v := 0) hκ (by decide) dX10_freePair_91 rfl ?_
  refine lb_m_freePair_92 hκ hR hK4 _ _ _ _  h
def wp_m_freePair_4_s (K109 : ST → Int32 → Prop) (post : Int32 → ST → Prop) (rec : ST → Int32 → Int32 → Prop) (M : ST) (l1 : Int32) (l2 : Int32) : Prop :=
  (144 ≤ l2 → (K109 M l1)) ∧ (¬ 144 ≤ l2 → (wp_m_isPair M l2 (fun r2 M1 => (r2 = 0 → (rec M1 l1 (l2 + 1))) ∧ (¬ r2 = 0 → (vp_in l2 144 ∧ ((¬ (m_pairs M1 l2.toNatClampNeg) = 0 → (rec M1 l1 (l2 + 1))) ∧ ((m_pairs M1 l2.toNatClampNeg) = 0 → ((l1 < 0 → (wp_m_freePair_45 rec post M1 l1 l2)) ∧ (¬ l1 < 0 → (wp_m_hasWay M1 l2 (fun r6 M5 => wp_m_hasWay M5 l1 (fun r8 M7 => (r6 = r8 → (wp_m_hasWay M7 l2 (fun r10 M9 => (r10 = 0 → (wp_m_freePair_91 rec post M9 l1 l2)) ∧ (¬ r10 = 0 → (wp_m_priced M9 l2 (fun r12 M11 => wp_m_priced M11 l1 (fun r14 M13 => (r14 ≤ r12 → (wp_m_freePair_91 rec post M13 l1 l2)) ∧ (¬ r14 ≤ r12 → (wp_m_freePair_92 rec post M13 l1 l2 1))))))))) ∧ (¬ r6 = r8 → (wp_m_freePair_45 rec post M7 l1 l2))))))))))))))
def wp_m_freePair_4 (K109 : ST → Int32 → Prop) (post : Int32 → ST → Prop) : Nat → ST → Int32 → Int32 → Prop
  | 0 => fun _ _ _ => False
  | n + 1 => wp_m_freePair_4_s K109 post (wp_m_freePair_4 K109 post n)
set_option maxHeartbeats 4000000 in
set_option maxRecDepth 100000 in
theorem lb_m_freePair_4 {κ : Cx} {g : Gx} {X : ST} (hκ : CF κ g RX10 cX10_freePair wq_X10_freePair 4 rm_m_freePair) {post : Int32 → ST → Prop} (hR : RtmI κ g 4 cX10_freePair X post) {K109 : ST → Int32 → Prop} (hK109 : ∀ (M : ST) (l1 : Int32), K109 M l1 → Jw κ g 4 X M [(1, .int l1)] 109 []) : ∀ (n : Nat) (M : ST) (l1 : Int32) (l2 : Int32), wp_m_freePair_4 K109 post n M l1 l2 → Jw κ g 4 X M [(0, .ref (g.2.1 11)), (1, .int l1), (2, .int l2)] 4 [] := by
  intro n
  induction n with
  | zero =>
    intro M l1 l2  h
    exact h.elim
  | succ n ih =>
    intro M l1 l2  h
    have h : wp_m_freePair_4_s K109 post (wp_m_freePair_4 K109 post n) M l1 l2 := h
    unfold wp_m_freePair_4_s at h
    refine j_iload_n (pc' := 5) hκ 2 rfl rfl dX10_freePair_4 rfl ?_
    refine j_sipush (pc' := 8) (v := 144) hκ (by decide) dX10_freePair_5 rfl ?_
    refine j_icmp_ge (tgt := 109) (pc' := 11) hκ dX10_freePair_8 (by decide) rfl (fun c => ?_) (fun c => ?_)
    · replace h := h.1 c
      refine j_sub [1] rfl ?_
      exact hK109 _ _  h
    · replace h := h.2 c
      refine j_aload_n (pc' := 12) hκ 0 rfl rfl dX10_freePair_11 rfl ?_
      refine j_iload_n (pc' := 13) hκ 2 rfl rfl dX10_freePair_12 rfl ?_
      refine jm_callVi (pc' := 16) hκ (c_m_isPair (dg hκ) h) rfl rfl rfl (gV wm_36_19 wm_36_20 wm_36_21 wm_1_5 wm_36_22) hqV_X10_isPair ⟨Nat.le_of_ble_eq_true rfl, Nat.le_of_ble_eq_true rfl⟩ (wg_11 g _ _) rfl rfl rfl (Nat.le_of_ble_eq_true rfl) dX10_freePair_13 rfl (fun r2 M1 h => ?_)
      refine j_if_eq (tgt := 103) (pc' := 19) hκ dX10_freePair_16 (by decide) rfl (fun c => ?_) (fun c => ?_)
      · replace h := h.1 c
        refine j_iinc (pc' := 106) (v := l2 + 1) (lv' := [(2, .int (l2 + 1)), (0, .ref (g.2.1 11)), (1, .int l1)]) hκ 2 rfl rfl (Nat.le_of_ble_eq_true rfl) rfl dX10_freePair_103 rfl ?_
        refine j_goto (pc' := 4) hκ (by decide) dX10_freePair_106 ?_
        refine j_sub [1, 2, 0] rfl ?_
        exact ih _ _ _  h
      · replace h := h.2 c
        refine j_aload_n (pc' := 20) hκ 0 rfl rfl dX10_freePair_19 rfl ?_
        refine jg_11_24 (pc' := 23) hκ (mi inlX10) (fl_in hκ (mc wm_8_6)) dX10_freePair_20 rfl ?_
        refine j_iload_n (pc' := 24) hκ 2 rfl rfl dX10_freePair_23 rfl ?_
        refine jm_iald (pc' := 25) hκ (ah_67 g) h.1 dX10_freePair_24 rfl ?_
        replace h := h.2
        refine j_if_ne (tgt := 103) (pc' := 28) hκ dX10_freePair_25 (by decide) rfl (fun c => ?_) (fun c => ?_)
        · replace h := h.1 c
          refine j_iinc (pc' := 106) (v := l2 + 1) (lv' := [(2, .int (l2 + 1)), (0, .ref (g.2.1 11)), (1, .int l1)]) hκ 2 rfl rfl (Nat.le_of_ble_eq_true rfl) rfl dX10_freePair_103 rfl ?_
          refine j_goto (pc' := 4) hκ (by decide) dX10_freePair_106 ?_
          refine j_sub [1, 2, 0] rfl ?_
          exact ih _ _ _  h
        · replace h := h.2 c
          refine j_iload_n (pc' := 29) hκ 1 rfl rfl dX10_freePair_28 rfl ?_
          refine j_if_lt (tgt := 45) (pc' := 32) hκ dX10_freePair_29 (by decide) rfl (fun c => ?_) (fun c => ?_)
          · replace h := h.1 c
            refine lb_m_freePair_45 hκ hR ih _ _ _  h
          · replace h := h.2 c
            refine j_aload_n (pc' := 33) hκ 0 rfl rfl dX10_freePair_32 rfl ?_
            refine j_iload_n (pc' := 34) hκ 2 rfl rfl dX10_freePair_33 rfl ?_
            refine jm_callVi (pc' := 37) hκ (c_m_hasWay (dg hκ) h) rfl rfl rfl (gV wm_36_23 wm_37_0 wm_37_1 wm_1_5 wm_37_2) hqV_X10_hasWay ⟨Nat.le_of_ble_eq_true rfl, Nat.le_of_ble_eq_true rfl⟩ (wg_11 g _ _) rfl rfl rfl (Nat.le_of_ble_eq_true rfl) dX10_freePair_34 rfl (fun r6 M5 h => ?_)
            refine j_aload_n (pc' := 38) hκ 0 rfl rfl dX10_freePair_37 rfl ?_
            refine j_iload_n (pc' := 39) hκ 1 rfl rfl dX10_freePair_38 rfl ?_
            refine jm_callVi (pc' := 42) hκ (c_m_hasWay (dg hκ) h) rfl rfl rfl (gV wm_36_23 wm_37_0 wm_37_1 wm_1_5 wm_37_2) hqV_X10_hasWay ⟨Nat.le_of_ble_eq_true rfl, Nat.le_of_ble_eq_true rfl⟩ (wg_11 g _ _) rfl rfl rfl (Nat.le_of_ble_eq_true rfl) dX10_freePair_39 rfl (fun r8 M7 h => ?_)
            refine j_icmp_eq (tgt := 65) (pc' := 45) hκ dX10_freePair_42 (by decide) rfl (fun c => ?_) (fun c => ?_)
            · replace h := h.1 c
              refine j_aload_n (pc' := 66) hκ 0 rfl rfl dX10_freePair_65 rfl ?_
              refine j_iload_n (pc' := 67) hκ 2 rfl rfl dX10_freePair_66 rfl ?_
              refine jm_callVi (pc' := 70) hκ (c_m_hasWay (dg hκ) h) rfl rfl rfl (gV wm_36_23 wm_37_0 wm_37_1 wm_1_5 wm_37_2) hqV_X10_hasWay ⟨Nat.le_of_ble_eq_true rfl, Nat.le_of_ble_eq_true rfl⟩ (wg_11 g _ _) rfl rfl rfl (Nat.le_of_ble_eq_true rfl) dX10_freePair_67 rfl (fun r10 M9 h => ?_)
              refine j_if_eq (tgt := 91) (pc' := 73) hκ dX10_freePair_70 (by decide) rfl (fun c => ?_) (fun c => ?_)
              · replace h := h.1 c
                refine lb_m_freePair_91 hκ hR ih _ _ _  h
              · replace h := h.2 c
                refine j_aload_n (pc' := 74) hκ 0 rfl rfl dX10_freePair_73 rfl ?_
                refine j_iload_n (pc' := 75) hκ 2 rfl rfl dX10_freePair_74 rfl ?_
                refine jm_callVl (pc' := 78) hκ (c_m_priced (dg hκ) h) rfl rfl rfl (gV wm_37_7 wm_37_8 wm_37_9 wm_1_5 wm_37_10) hqV_X10_priced ⟨Nat.le_of_ble_eq_true rfl, Nat.le_of_ble_eq_true rfl⟩ (wg_11 g _ _) rfl rfl rfl (Nat.le_of_ble_eq_true rfl) dX10_freePair_75 rfl (fun r12 M11 h => ?_)
                refine j_aload_n (pc' := 79) hκ 0 rfl rfl dX10_freePair_78 rfl ?_
                refine j_iload_n (pc' := 80) hκ 1 rfl rfl dX10_freePair_79 rfl ?_
                refine jm_callVl (pc' := 83) hκ (c_m_priced (dg hκ) h) rfl rfl rfl (gV wm_37_7 wm_37_8 wm_37_9 wm_1_5 wm_37_10) hqV_X10_priced ⟨Nat.le_of_ble_eq_true rfl, Nat.le_of_ble_eq_true rfl⟩ (wg_11 g _ _) rfl rfl rfl (Nat.le_of_ble_eq_true rfl) dX10_freePair_80 rfl (fun r14 M13 h => ?_)
                refine j_lc_ge (tgt := 91) (pc1 := 84) (pc' := 87) hκ dX10_freePair_83 rfl dX10_freePair_84 (by decide) rfl (fun c => ?_) (fun c => ?_)
                · replace h := h.1 c
                  refine lb_m_freePair_91 hκ hR ih _ _ _  h
                · replace h := h.2 c
                  refine j_iconst (pc' := 88) (v := 1) hκ (by decide) dX10_freePair_87 rfl ?_
                  refine j_goto (pc' := 92) hκ (by decide) dX10_freePair_88 ?_
                  refine lb_m_freePair_92 hκ hR ih _ _ _ _  h
            · replace h := h.2 c
              refine lb_m_freePair_45 hκ hR ih _ _ _  h
def wp_m_freePair (M : ST) (post : Int32 → ST → Prop) : Prop :=
  ∃ n, wp_m_freePair_4 (fun M15 v16 => post v16 M15) post n M (-1) 0
set_option maxHeartbeats 4000000 in
set_option maxRecDepth 100000 in
theorem lb_m_freePair {κ : Cx} {g : Gx} {X : ST} (hκ : CF κ g RX10 cX10_freePair wq_X10_freePair 4 rm_m_freePair) {post : Int32 → ST → Prop} (hR : RtmI κ g 4 cX10_freePair X post) {M : ST} (h : wp_m_freePair M post) : Jw κ g 4 X M [(0, .ref (g.2.1 11))] 0 [] := by
  unfold wp_m_freePair at h
  refine j_iconst (pc' := 1) (v := (-1)) hκ (by decide) dX10_freePair_0 rfl ?_
  refine j_istore_n (pc' := 2) (lv' := [(1, .int (-1)), (0, .ref (g.2.1 11))]) hκ (Nat.le_of_ble_eq_true rfl) rfl rfl dX10_freePair_1 rfl ?_
  refine j_iconst (pc' := 3) (v := 0) hκ (by decide) dX10_freePair_2 rfl ?_
  refine j_istore_n (pc' := 4) (lv' := [(2, .int 0), (1, .int (-1)), (0, .ref (g.2.1 11))]) hκ (Nat.le_of_ble_eq_true rfl) rfl rfl dX10_freePair_3 rfl ?_
  obtain ⟨n, h⟩ := h
  refine j_sub [2, 1, 0] rfl ?_
  refine lb_m_freePair_4 hκ hR ?_ n _ _ _  h
  intro M15 v16  h
  refine j_iload_n (pc' := 110) hκ 0 rfl rfl dX10_freePair_109 rfl ?_
  exact hR _ _ _ _ dX10_freePair_110 h
theorem c_m_freePair {g : Gx} (hg : Dg g) {X M : ST} {post : Int32 → ST → Prop} (h : wp_m_freePair M post) (l : Launch) : Met l yX10_freePair wq_X10_freePair rm_m_freePair (va_Pc [.ref (g.2.1 11)] (PU g X M)) (va_Qi post (fun Y t => va_P g.1 vwCl (ww g X Y) t.heap) (wA g)) 0 0 (wA g) :=
  met_mi hg (by decide) rfl [.ref (g.2.1 11)] rfl (Nat.le_of_ble_eq_true rfl) (fun κ hκ hR => lb_m_freePair hκ hR h) l
theorem wm_43_20 : Cond.methodLink RX10 280 yX10_freePair ∈ wAll := inr_43 (List.mem_of_getElem? (i := 20) rfl)
theorem wm_43_21 : Cond.instanceMethod yX10_freePair ∈ wAll := inr_43 (List.mem_of_getElem? (i := 21) rfl)
theorem wm_43_22 : Cond.selects RX10 yX10_freePair yX10_freePair ∈ wAll := inr_43 (List.mem_of_getElem? (i := 22) rfl)
theorem wm_43_23 : Cond.code yX10_freePair cX10_freePair 4 (some .int) ∈ wAll := inr_43 (List.mem_of_getElem? (i := 23) rfl)
theorem hqV_X10_freePair : yX10_freePair.cls = RX10 ∧ yX10_freePair.cls ≠ "java/lang/invoke/MethodHandle" ∧ yX10_freePair.cls ≠ "java/lang/invoke/VarHandle" ∧ (parseMethodDescriptor yX10_freePair.desc).map (fun d => d.parameters.length) = some 0 := by decide +kernel
theorem wm_8_12 : Cond.fieldLink RX10 90 "LampRoundModel" "newOp" "[I" ∈ wAll := inr_8 (List.mem_of_getElem? (i := 12) rfl)
theorem wm_8_13 : Cond.fieldLink RX10 93 "LampRoundModel" "newLeft" "[I" ∈ wAll := inr_8 (List.mem_of_getElem? (i := 13) rfl)
theorem wm_8_14 : Cond.fieldLink RX10 96 "LampRoundModel" "newRight" "[I" ∈ wAll := inr_8 (List.mem_of_getElem? (i := 14) rfl)
abbrev rm_m_write_ : Room := { frames := 0, cells := 0, slots := 0, locals := 0 }
def wp_m_write_ (M : ST) (p1 : Int32) (p2 : Int32) (p3 : Int32) (post : Int32 → ST → Prop) : Prop :=
  (¬ (m_news M) = 400 → (vp_in (m_news M) 400 ∧ (∀ M1 : ST, M1 = ms_newOp M (upd (m_newOp M) (m_news M).toNatClampNeg p1) → vp_in (m_news M1) 400 ∧ (∀ M2 : ST, M2 = ms_newLeft M1 (upd (m_newLeft M1) (m_news M1).toNatClampNeg p2) → vp_in (m_news M2) 400 ∧ (∀ M3 : ST, M3 = ms_newRight M2 (upd (m_newRight M2) (m_news M2).toNatClampNeg p3) → ∀ M4 : ST, M4 = ms_news M3 ((m_news M3) + 1) → post 1 M4))))) ∧ ((m_news M) = 400 → (post 0 M))
set_option maxHeartbeats 4000000 in
set_option maxRecDepth 100000 in
theorem lb_m_write_ {κ : Cx} {g : Gx} {X : ST} (hκ : CF κ g RX10 cX10_write_ wq_X10_write_ 4 rm_m_write_) {post : Int32 → ST → Prop} (hR : RtmZ κ g 4 cX10_write_ X post) {M : ST} {p1 : Int32} {p2 : Int32} {p3 : Int32} (h : wp_m_write_ M p1 p2 p3 post) : Jw κ g 4 X M [(0, .ref (g.2.1 11)), (1, .int p1), (2, .int p2), (3, .int p3)] 0 [] := by
  unfold wp_m_write_ at h
  refine j_aload_n (pc' := 1) hκ 0 rfl rfl dX10_write__0 rfl ?_
  refine jg_11_35 (pc' := 4) hκ (mi inlX10) (fl_in hκ (mc wm_41_23)) dX10_write__1 rfl ?_
  refine j_sipush (pc' := 7) (v := 400) hκ (by decide) dX10_write__4 rfl ?_
  refine j_icmp_ne (tgt := 12) (pc' := 10) hκ dX10_write__7 (by decide) rfl (fun c => ?_) (fun c => ?_)
  · replace h := h.1 c
    refine j_aload_n (pc' := 13) hκ 0 rfl rfl dX10_write__12 rfl ?_
    refine jg_11_32 (pc' := 16) hκ (mi inlX10) (fl_in hκ (mc wm_8_12)) dX10_write__13 rfl ?_
    refine j_aload_n (pc' := 17) hκ 0 rfl rfl dX10_write__16 rfl ?_
    refine jg_11_35 (pc' := 20) hκ (mi inlX10) (fl_in hκ (mc wm_41_23)) dX10_write__17 rfl ?_
    refine j_iload_n (pc' := 21) hκ 1 rfl rfl dX10_write__20 rfl ?_
    refine jm_iast (pc' := 22) hκ (ah_73 g) h.1 dX10_write__21 rfl ?_
    replace h := h.2
    refine j_nmM (fun M1 eM1 => ?_)
    replace h := h M1 eM1
    refine j_aload_n (pc' := 23) hκ 0 rfl rfl dX10_write__22 rfl ?_
    refine jg_11_33 (pc' := 26) hκ (mi inlX10) (fl_in hκ (mc wm_8_13)) dX10_write__23 rfl ?_
    refine j_aload_n (pc' := 27) hκ 0 rfl rfl dX10_write__26 rfl ?_
    refine jg_11_35 (pc' := 30) hκ (mi inlX10) (fl_in hκ (mc wm_41_23)) dX10_write__27 rfl ?_
    refine j_iload_n (pc' := 31) hκ 2 rfl rfl dX10_write__30 rfl ?_
    refine jm_iast (pc' := 32) hκ (ah_74 g) h.1 dX10_write__31 rfl ?_
    replace h := h.2
    refine j_nmM (fun M2 eM2 => ?_)
    replace h := h M2 eM2
    refine j_aload_n (pc' := 33) hκ 0 rfl rfl dX10_write__32 rfl ?_
    refine jg_11_34 (pc' := 36) hκ (mi inlX10) (fl_in hκ (mc wm_8_14)) dX10_write__33 rfl ?_
    refine j_aload_n (pc' := 37) hκ 0 rfl rfl dX10_write__36 rfl ?_
    refine jg_11_35 (pc' := 40) hκ (mi inlX10) (fl_in hκ (mc wm_41_23)) dX10_write__37 rfl ?_
    refine j_iload_n (pc' := 41) hκ 3 rfl rfl dX10_write__40 rfl ?_
    refine jm_iast (pc' := 42) hκ (ah_75 g) h.1 dX10_write__41 rfl ?_
    replace h := h.2
    refine j_nmM (fun M3 eM3 => ?_)
    replace h := h M3 eM3
    refine j_aload_n (pc' := 43) hκ 0 rfl rfl dX10_write__42 rfl ?_
    refine j_dup (pc' := 44) hκ rfl dX10_write__43 rfl ?_
    refine jg_11_35 (pc' := 47) hκ (mi inlX10) (fl_in hκ (mc wm_41_23)) dX10_write__44 rfl ?_
    refine j_iconst (pc' := 48) (v := 1) hκ (by decide) dX10_write__47 rfl ?_
    refine j_iadd (pc' := 49) hκ dX10_write__48 rfl ?_
    refine jp_11_35 (pc' := 52) hκ (mi inlX10) (fl_in hκ (mc wm_41_23)) dX10_write__49 rfl ?_
    refine j_nmM (fun M4 eM4 => ?_)
    replace h := h M4 eM4
    refine j_iconst (pc' := 53) (v := 1) hκ (by decide) dX10_write__52 rfl ?_
    exact hR _ _ _ _ dX10_write__53 (Or.inr rfl) h
  · replace h := h.2 c
    refine j_iconst (pc' := 11) (v := 0) hκ (by decide) dX10_write__10 rfl ?_
    exact hR _ _ _ _ dX10_write__11 (Or.inl rfl) h
theorem c_m_write_ {g : Gx} (hg : Dg g) {X M : ST} {p1 : Int32} {p2 : Int32} {p3 : Int32} {post : Int32 → ST → Prop} (h : wp_m_write_ M p1 p2 p3 post) (l : Launch) : Met l yX10_write_ wq_X10_write_ rm_m_write_ (va_Pc [.ref (g.2.1 11), .int p1, .int p2, .int p3] (PU g X M)) (va_Qi post (fun Y t => va_P g.1 vwCl (ww g X Y) t.heap) (wA g)) 0 0 (wA g) :=
  met_mz hg (by decide) rfl [.ref (g.2.1 11), .int p1, .int p2, .int p3] rfl (Nat.le_of_ble_eq_true rfl) (fun κ hκ hR => lb_m_write_ hκ hR h) l
theorem wm_44_0 : Cond.methodLink RX10 283 yX10_write_ ∈ wAll := inr_44 (List.mem_of_getElem? (i := 0) rfl)
theorem wm_44_1 : Cond.instanceMethod yX10_write_ ∈ wAll := inr_44 (List.mem_of_getElem? (i := 1) rfl)
theorem wm_44_2 : Cond.selects RX10 yX10_write_ yX10_write_ ∈ wAll := inr_44 (List.mem_of_getElem? (i := 2) rfl)
theorem wm_44_3 : Cond.code yX10_write_ cX10_write_ 4 (some .boolean) ∈ wAll := inr_44 (List.mem_of_getElem? (i := 3) rfl)
theorem hqV_X10_write_ : yX10_write_.cls = RX10 ∧ yX10_write_.cls ≠ "java/lang/invoke/MethodHandle" ∧ yX10_write_.cls ≠ "java/lang/invoke/VarHandle" ∧ (parseMethodDescriptor yX10_write_.desc).map (fun d => d.parameters.length) = some 3 := by decide +kernel
abbrev rm_m_part : Room := { frames := 1, cells := 0, slots := 0, locals := 21 }
def wp_m_part (M : ST) (p1 : Int32) (p2 : Int32) (post : ST → Prop) : Prop :=
  wp_m_pairOf M p1 p2 (fun r2 M1 => vp_in r2 144 ∧ (∀ M3 : ST, M3 = ms_pairs M1 (upd (m_pairs M1) r2.toNatClampNeg 2) → wp_m_pushCase M3 (fun M4 => wp_m_pairOf M4 p1 p2 (fun r7 M6 => vp_in r7 144 ∧ (∀ M8 : ST, M8 = ms_pairs M6 (upd (m_pairs M6) r7.toNatClampNeg 1) → wp_m_pushCase M8 (fun M9 => post M9))))))
set_option maxHeartbeats 4000000 in
set_option maxRecDepth 100000 in
theorem lb_m_part {κ : Cx} {g : Gx} {X : ST} (hκ : CF κ g RX10 cX10_part wq_X10_part 3 rm_m_part) {post : ST → Prop} (hR : RtmV κ g 3 cX10_part X post) {M : ST} {p1 : Int32} {p2 : Int32} (h : wp_m_part M p1 p2 post) : Jw κ g 3 X M [(0, .ref (g.2.1 11)), (1, .int p1), (2, .int p2)] 0 [] := by
  unfold wp_m_part at h
  refine j_aload_n (pc' := 1) hκ 0 rfl rfl dX10_part_0 rfl ?_
  refine jg_11_24 (pc' := 4) hκ (mi inlX10) (fl_in hκ (mc wm_8_6)) dX10_part_1 rfl ?_
  refine j_iload_n (pc' := 5) hκ 1 rfl rfl dX10_part_4 rfl ?_
  refine j_iload_n (pc' := 6) hκ 2 rfl rfl dX10_part_5 rfl ?_
  refine jm_callSi (pc' := 9) hκ (c_m_pairOf (dg hκ) h) rfl rfl rfl (gS wm_42_17 wm_42_18 wm_1_5 wm_42_19) hqS_X10_pairOf ⟨Nat.le_of_ble_eq_true rfl, Nat.le_of_ble_eq_true rfl⟩ rfl rfl (Nat.le_of_ble_eq_true rfl) dX10_part_6 rfl (fun r2 M1 h => ?_)
  refine j_iconst (pc' := 10) (v := 2) hκ (by decide) dX10_part_9 rfl ?_
  refine jm_iast (pc' := 11) hκ (ah_67 g) h.1 dX10_part_10 rfl ?_
  replace h := h.2
  refine j_nmM (fun M3 eM3 => ?_)
  replace h := h M3 eM3
  refine j_aload_n (pc' := 12) hκ 0 rfl rfl dX10_part_11 rfl ?_
  refine jm_callVv (pc' := 15) hκ (c_m_pushCase (dg hκ) h) rfl rfl rfl (gV wm_42_1 wm_42_2 wm_42_3 wm_1_5 wm_42_4) hqV_X10_pushCase ⟨Nat.le_of_ble_eq_true rfl, Nat.le_of_ble_eq_true rfl⟩ (wg_11 g _ _) rfl rfl rfl (Nat.le_of_ble_eq_true rfl) dX10_part_12 rfl (fun M4 h => ?_)
  refine j_aload_n (pc' := 16) hκ 0 rfl rfl dX10_part_15 rfl ?_
  refine jg_11_24 (pc' := 19) hκ (mi inlX10) (fl_in hκ (mc wm_8_6)) dX10_part_16 rfl ?_
  refine j_iload_n (pc' := 20) hκ 1 rfl rfl dX10_part_19 rfl ?_
  refine j_iload_n (pc' := 21) hκ 2 rfl rfl dX10_part_20 rfl ?_
  refine jm_callSi (pc' := 24) hκ (c_m_pairOf (dg hκ) h) rfl rfl rfl (gS wm_42_17 wm_42_18 wm_1_5 wm_42_19) hqS_X10_pairOf ⟨Nat.le_of_ble_eq_true rfl, Nat.le_of_ble_eq_true rfl⟩ rfl rfl (Nat.le_of_ble_eq_true rfl) dX10_part_21 rfl (fun r7 M6 h => ?_)
  refine j_iconst (pc' := 25) (v := 1) hκ (by decide) dX10_part_24 rfl ?_
  refine jm_iast (pc' := 26) hκ (ah_67 g) h.1 dX10_part_25 rfl ?_
  replace h := h.2
  refine j_nmM (fun M8 eM8 => ?_)
  replace h := h M8 eM8
  refine j_aload_n (pc' := 27) hκ 0 rfl rfl dX10_part_26 rfl ?_
  refine jm_callVv (pc' := 30) hκ (c_m_pushCase (dg hκ) h) rfl rfl rfl (gV wm_42_1 wm_42_2 wm_42_3 wm_1_5 wm_42_4) hqV_X10_pushCase ⟨Nat.le_of_ble_eq_true rfl, Nat.le_of_ble_eq_true rfl⟩ (wg_11 g _ _) rfl rfl rfl (Nat.le_of_ble_eq_true rfl) dX10_part_27 rfl (fun M9 h => ?_)
  exact hR _ _ _ dX10_part_30 h
theorem c_m_part {g : Gx} (hg : Dg g) {X M : ST} {p1 : Int32} {p2 : Int32} {post : ST → Prop} (h : wp_m_part M p1 p2 post) (l : Launch) : Met l yX10_part wq_X10_part rm_m_part (va_Pc [.ref (g.2.1 11), .int p1, .int p2] (PU g X M)) (va_Qv post (fun Y t => va_P g.1 vwCl (ww g X Y) t.heap) (wA g)) 0 0 (wA g) :=
  met_mv hg (by decide) rfl [.ref (g.2.1 11), .int p1, .int p2] rfl (Nat.le_of_ble_eq_true rfl) (fun κ hκ hR => lb_m_part hκ hR h) l
theorem wm_44_4 : Cond.methodLink RX10 286 yX10_part ∈ wAll := inr_44 (List.mem_of_getElem? (i := 4) rfl)
theorem wm_44_5 : Cond.instanceMethod yX10_part ∈ wAll := inr_44 (List.mem_of_getElem? (i := 5) rfl)
theorem wm_44_6 : Cond.selects RX10 yX10_part yX10_part ∈ wAll := inr_44 (List.mem_of_getElem? (i := 6) rfl)
theorem wm_44_7 : Cond.code yX10_part cX10_part 3 none ∈ wAll := inr_44 (List.mem_of_getElem? (i := 7) rfl)
theorem hqV_X10_part : yX10_part.cls = RX10 ∧ yX10_part.cls ≠ "java/lang/invoke/MethodHandle" ∧ yX10_part.cls ≠ "java/lang/invoke/VarHandle" ∧ (parseMethodDescriptor yX10_part.desc).map (fun d => d.parameters.length) = some 2 := by decide +kernel
theorem wm_8_0 : Cond.fieldLink RX10 54 "LampRoundModel" "op" "[I" ∈ wAll := inr_8 (List.mem_of_getElem? (i := 0) rfl)
theorem wm_8_1 : Cond.fieldLink RX10 57 "LampRoundModel" "left" "[I" ∈ wAll := inr_8 (List.mem_of_getElem? (i := 1) rfl)
theorem wm_8_2 : Cond.fieldLink RX10 60 "LampRoundModel" "right" "[I" ∈ wAll := inr_8 (List.mem_of_getElem? (i := 2) rfl)
abbrev rm_m_prove : Room := { frames := 7, cells := 0, slots := 0, locals := 167 }
def wp_m_prove_87 (K35 : ST → Int32 → Prop) (K101 : ST → Prop) (post : Int32 → ST → Prop) (M : ST) (l1 : Int32) (l2 : Int32) (l3 : Int32) (s0 : Int32) : Prop :=
  wp_m_write_ M s0 (l3 / 12) (l3 - l3 / 12 * 12) (fun r16 M15 => (¬ r16 = 0 → ((¬ l2 = 0 → (K35 M15 l1)) ∧ (l2 = 0 → (wp_m_part M15 (l3 / 12) (l3 - l3 / 12 * 12) (fun M17 => K35 M17 l1))))) ∧ (r16 = 0 → (K101 M15)))
set_option maxHeartbeats 4000000 in
set_option maxRecDepth 100000 in
theorem lb_m_prove_87 {κ : Cx} {g : Gx} {X : ST} (hκ : CF κ g RX10 cX10_prove wq_X10_prove 4 rm_m_prove) {post : Int32 → ST → Prop} (hR : RtmI κ g 4 cX10_prove X post) {K35 : ST → Int32 → Prop} {K101 : ST → Prop} (hK35 : ∀ (M : ST) (l1 : Int32), K35 M l1 → Jw κ g 4 X M [(0, .ref (g.2.1 11)), (1, .int l1)] 35 []) (hK101 : ∀ (M : ST), K101 M → Jw κ g 4 X M [] 101 []) : ∀ (M : ST) (l1 : Int32) (l2 : Int32) (l3 : Int32) (s0 : Int32), wp_m_prove_87 K35 K101 post M l1 l2 l3 s0 → Jw κ g 4 X M [(0, .ref (g.2.1 11)), (1, .int l1), (2, .int l2), (3, .int l3)] 87 [.int s0, .ref (g.2.1 11)] := by
  intro M l1 l2 l3 s0  h
  unfold wp_m_prove_87 at h
  refine j_iload_n (pc' := 88) hκ 3 rfl rfl dX10_prove_87 rfl ?_
  refine j_bipush (pc' := 90) (v := 12) hκ (by decide) dX10_prove_88 rfl ?_
  refine j_idiv (pc' := 91) hκ (by decide) dX10_prove_90 rfl ?_
  refine j_iload_n (pc' := 92) hκ 3 rfl rfl dX10_prove_91 rfl ?_
  refine j_bipush (pc' := 94) (v := 12) hκ (by decide) dX10_prove_92 rfl ?_
  refine j_irem (pc' := 95) hκ (by decide) dX10_prove_94 rfl ?_
  refine jm_callVi (pc' := 98) hκ (c_m_write_ (dg hκ) h) rfl rfl rfl (gV wm_44_0 wm_44_1 wm_44_2 wm_1_5 wm_44_3) hqV_X10_write_ ⟨Nat.le_of_ble_eq_true rfl, Nat.le_of_ble_eq_true rfl⟩ (wg_11 g _ _) rfl rfl rfl (Nat.le_of_ble_eq_true rfl) dX10_prove_95 rfl (fun r16 M15 h => ?_)
  refine j_if_ne (tgt := 104) (pc' := 101) hκ dX10_prove_98 (by decide) rfl (fun c => ?_) (fun c => ?_)
  · replace h := h.1 c
    refine j_iload_n (pc' := 105) hκ 2 rfl rfl dX10_prove_104 rfl ?_
    refine j_if_ne (tgt := 120) (pc' := 108) hκ dX10_prove_105 (by decide) rfl (fun c => ?_) (fun c => ?_)
    · replace h := h.1 c
      refine j_goto (pc' := 35) hκ (by decide) dX10_prove_120 ?_
      refine j_sub [0, 1] rfl ?_
      exact hK35 _ _  h
    · replace h := h.2 c
      refine j_aload_n (pc' := 109) hκ 0 rfl rfl dX10_prove_108 rfl ?_
      refine j_iload_n (pc' := 110) hκ 3 rfl rfl dX10_prove_109 rfl ?_
      refine j_bipush (pc' := 112) (v := 12) hκ (by decide) dX10_prove_110 rfl ?_
      refine j_idiv (pc' := 113) hκ (by decide) dX10_prove_112 rfl ?_
      refine j_iload_n (pc' := 114) hκ 3 rfl rfl dX10_prove_113 rfl ?_
      refine j_bipush (pc' := 116) (v := 12) hκ (by decide) dX10_prove_114 rfl ?_
      refine j_irem (pc' := 117) hκ (by decide) dX10_prove_116 rfl ?_
      refine jm_callVv (pc' := 120) hκ (c_m_part (dg hκ) h) rfl rfl rfl (gV wm_44_4 wm_44_5 wm_44_6 wm_1_5 wm_44_7) hqV_X10_part ⟨Nat.le_of_ble_eq_true rfl, Nat.le_of_ble_eq_true rfl⟩ (wg_11 g _ _) rfl rfl rfl (Nat.le_of_ble_eq_true rfl) dX10_prove_117 rfl (fun M17 h => ?_)
      refine j_goto (pc' := 35) hκ (by decide) dX10_prove_120 ?_
      refine j_sub [0, 1] rfl ?_
      exact hK35 _ _  h
  · replace h := h.2 c
    refine j_sub [] rfl ?_
    exact hK101 _  h
def wp_m_prove_68 (K35 : ST → Int32 → Prop) (K101 : ST → Prop) (post : Int32 → ST → Prop) (M : ST) (l1 : Int32) (l2 : Int32) (s0 : Int32) : Prop :=
  (s0 < 0 → (K101 M)) ∧ (¬ s0 < 0 → ((¬ l2 = 0 → (wp_m_prove_87 K35 K101 post M l1 l2 s0 (l2 / 1000))) ∧ (l2 = 0 → (wp_m_prove_87 K35 K101 post M l1 l2 s0 1))))
set_option maxHeartbeats 4000000 in
set_option maxRecDepth 100000 in
theorem lb_m_prove_68 {κ : Cx} {g : Gx} {X : ST} (hκ : CF κ g RX10 cX10_prove wq_X10_prove 4 rm_m_prove) {post : Int32 → ST → Prop} (hR : RtmI κ g 4 cX10_prove X post) {K35 : ST → Int32 → Prop} {K101 : ST → Prop} (hK35 : ∀ (M : ST) (l1 : Int32), K35 M l1 → Jw κ g 4 X M [(0, .ref (g.2.1 11)), (1, .int l1)] 35 []) (hK101 : ∀ (M : ST), K101 M → Jw κ g 4 X M [] 101 []) : ∀ (M : ST) (l1 : Int32) (l2 : Int32) (s0 : Int32), wp_m_prove_68 K35 K101 post M l1 l2 s0 → Jw κ g 4 X M [(0, .ref (g.2.1 11)), (1, .int l1), (2, .int l2)] 68 [.int s0] := by
  intro M l1 l2 s0  h
  unfold wp_m_prove_68 at h
  refine j_istore_n (pc' := 69) (lv' := [(3, .int s0), (0, .ref (g.2.1 11)), (1, .int l1), (2, .int l2)]) hκ (Nat.le_of_ble_eq_true rfl) rfl rfl dX10_prove_68 rfl ?_
  refine j_iload_n (pc' := 70) hκ 0 rfl rfl dX10_prove_69 rfl ?_
  refine j_if_lt (tgt := 101) (pc' := 73) hκ dX10_prove_70 (by decide) rfl (fun c => ?_) (fun c => ?_)
  · replace h := h.1 c
    refine j_sub [] rfl ?_
    exact hK101 _  h
  · replace h := h.2 c
    refine j_aload_n (pc' := 74) hκ 1 rfl rfl dX10_prove_73 rfl ?_
    refine j_iload_n (pc' := 75) hκ 3 rfl rfl dX10_prove_74 rfl ?_
    refine j_if_ne (tgt := 82) (pc' := 78) hκ dX10_prove_75 (by decide) rfl (fun c => ?_) (fun c => ?_)
    · replace h := h.1 c
      refine j_iload_n (pc' := 83) hκ 3 rfl rfl dX10_prove_82 rfl ?_
      refine j_sipush (pc' := 86) (v := 1000) hκ (by decide) dX10_prove_83 rfl ?_
      refine j_idiv (pc' := 87) hκ (by decide) dX10_prove_86 rfl ?_
      refine j_sub [1, 2, 3, 0] rfl ?_
      refine lb_m_prove_87 hκ hR hK35 hK101 _ _ _ _ _  h
    · replace h := h.2 c
      refine j_iconst (pc' := 79) (v := 1) hκ (by decide) dX10_prove_78 rfl ?_
      refine j_goto (pc' := 87) hκ (by decide) dX10_prove_79 ?_
      refine j_sub [1, 2, 3, 0] rfl ?_
      refine lb_m_prove_87 hκ hR hK35 hK101 _ _ _ _ _  h
def wp_m_prove_35_s (K101 : ST → Prop) (K123 : ST → Prop) (post : Int32 → ST → Prop) (rec : ST → Int32 → Prop) (M : ST) (l1 : Int32) : Prop :=
  ((m_waits M) ≤ 0 → (K123 M)) ∧ (¬ (m_waits M) ≤ 0 → (wp_m_popCase M (fun M9 => wp_m_ending M9 l1 (fun r12 M11 => (r12 = 0 → (wp_m_freePair M11 (fun r14 M13 => wp_m_prove_68 rec K101 post M13 l1 r12 r14))) ∧ (¬ r12 = 0 → (wp_m_prove_68 rec K101 post M11 l1 r12 (r12 - r12 / 1000 * 1000)))))))
def wp_m_prove_35 (K101 : ST → Prop) (K123 : ST → Prop) (post : Int32 → ST → Prop) : Nat → ST → Int32 → Prop
  | 0 => fun _ _ => False
  | n + 1 => wp_m_prove_35_s K101 K123 post (wp_m_prove_35 K101 K123 post n)
set_option maxHeartbeats 4000000 in
set_option maxRecDepth 100000 in
theorem lb_m_prove_35 {κ : Cx} {g : Gx} {X : ST} (hκ : CF κ g RX10 cX10_prove wq_X10_prove 4 rm_m_prove) {post : Int32 → ST → Prop} (hR : RtmI κ g 4 cX10_prove X post) {K101 : ST → Prop} {K123 : ST → Prop} (hK101 : ∀ (M : ST), K101 M → Jw κ g 4 X M [] 101 []) (hK123 : ∀ (M : ST), K123 M → Jw κ g 4 X M [(0, .ref (g.2.1 11))] 123 []) : ∀ (n : Nat) (M : ST) (l1 : Int32), wp_m_prove_35 K101 K123 post n M l1 → Jw κ g 4 X M [(0, .ref (g.2.1 11)), (1, .int l1)] 35 [] := by
  intro n
  induction n with
  | zero =>
    intro M l1  h
    exact h.elim
  | succ n ih =>
    intro M l1  h
    have h : wp_m_prove_35_s K101 K123 post (wp_m_prove_35 K101 K123 post n) M l1 := h
    unfold wp_m_prove_35_s at h
    refine j_aload_n (pc' := 36) hκ 0 rfl rfl dX10_prove_35 rfl ?_
    refine jg_11_30 (pc' := 39) hκ (mi inlX10) (fl_in hκ (mc wm_42_0)) dX10_prove_36 rfl ?_
    refine j_if_le (tgt := 123) (pc' := 42) hκ dX10_prove_39 (by decide) rfl (fun c => ?_) (fun c => ?_)
    · replace h := h.1 c
      refine j_sub [0] rfl ?_
      exact hK123 _  h
    · replace h := h.2 c
      refine j_aload_n (pc' := 43) hκ 0 rfl rfl dX10_prove_42 rfl ?_
      refine jm_callVv (pc' := 46) hκ (c_m_popCase (dg hκ) h) rfl rfl rfl (gV wm_42_5 wm_42_6 wm_42_7 wm_1_5 wm_42_8) hqV_X10_popCase ⟨Nat.le_of_ble_eq_true rfl, Nat.le_of_ble_eq_true rfl⟩ (wg_11 g _ _) rfl rfl rfl (Nat.le_of_ble_eq_true rfl) dX10_prove_43 rfl (fun M9 h => ?_)
      refine j_aload_n (pc' := 47) hκ 0 rfl rfl dX10_prove_46 rfl ?_
      refine j_iload_n (pc' := 48) hκ 1 rfl rfl dX10_prove_47 rfl ?_
      refine jm_callVi (pc' := 51) hκ (c_m_ending (dg hκ) h) rfl rfl rfl (gV wm_42_9 wm_42_10 wm_42_11 wm_1_5 wm_42_12) hqV_X10_ending ⟨Nat.le_of_ble_eq_true rfl, Nat.le_of_ble_eq_true rfl⟩ (wg_11 g _ _) rfl rfl rfl (Nat.le_of_ble_eq_true rfl) dX10_prove_48 rfl (fun r12 M11 h => ?_)
      refine j_istore_n (pc' := 52) (lv' := [(2, .int r12), (0, .ref (g.2.1 11)), (1, .int l1)]) hκ (Nat.le_of_ble_eq_true rfl) rfl rfl dX10_prove_51 rfl ?_
      refine j_iload_n (pc' := 53) hκ 0 rfl rfl dX10_prove_52 rfl ?_
      refine j_if_eq (tgt := 64) (pc' := 56) hκ dX10_prove_53 (by decide) rfl (fun c => ?_) (fun c => ?_)
      · replace h := h.1 c
        refine j_aload_n (pc' := 65) hκ 1 rfl rfl dX10_prove_64 rfl ?_
        refine jm_callVi (pc' := 68) hκ (c_m_freePair (dg hκ) h) rfl rfl rfl (gV wm_43_20 wm_43_21 wm_43_22 wm_1_5 wm_43_23) hqV_X10_freePair ⟨Nat.le_of_ble_eq_true rfl, Nat.le_of_ble_eq_true rfl⟩ (wg_11 g _ _) rfl rfl rfl (Nat.le_of_ble_eq_true rfl) dX10_prove_65 rfl (fun r14 M13 h => ?_)
        refine j_sub [1, 2, 0] rfl ?_
        refine lb_m_prove_68 hκ hR ih hK101 _ _ _ _  h
      · replace h := h.2 c
        refine j_iload_n (pc' := 57) hκ 0 rfl rfl dX10_prove_56 rfl ?_
        refine j_sipush (pc' := 60) (v := 1000) hκ (by decide) dX10_prove_57 rfl ?_
        refine j_irem (pc' := 61) hκ (by decide) dX10_prove_60 rfl ?_
        refine j_goto (pc' := 68) hκ (by decide) dX10_prove_61 ?_
        refine j_sub [1, 2, 0] rfl ?_
        refine lb_m_prove_68 hκ hR ih hK101 _ _ _ _  h
def wp_m_prove_133_s (K183 : ST → Prop) (post : Int32 → ST → Prop) (rec : ST → Int32 → Prop) (M : ST) (l2 : Int32) : Prop :=
  ((m_news M) ≤ l2 → (K183 M)) ∧ (¬ (m_news M) ≤ l2 → (vp_in l2 400 ∧ (vp_in l2 400 ∧ (∀ M22 : ST, M22 = ms_op M (upd (m_op M) l2.toNatClampNeg (m_newOp M l2.toNatClampNeg)) → vp_in l2 400 ∧ (vp_in l2 400 ∧ (∀ M23 : ST, M23 = ms_left M22 (upd (m_left M22) l2.toNatClampNeg (m_newLeft M22 l2.toNatClampNeg)) → vp_in l2 400 ∧ (vp_in l2 400 ∧ (∀ M24 : ST, M24 = ms_right M23 (upd (m_right M23) l2.toNatClampNeg (m_newRight M23 l2.toNatClampNeg)) → rec M24 (l2 + 1)))))))))
def wp_m_prove_133 (K183 : ST → Prop) (post : Int32 → ST → Prop) : Nat → ST → Int32 → Prop
  | 0 => fun _ _ => False
  | n + 1 => wp_m_prove_133_s K183 post (wp_m_prove_133 K183 post n)
set_option maxHeartbeats 4000000 in
set_option maxRecDepth 100000 in
theorem lb_m_prove_133 {κ : Cx} {g : Gx} {X : ST} (hκ : CF κ g RX10 cX10_prove wq_X10_prove 4 rm_m_prove) {post : Int32 → ST → Prop} (hR : RtmI κ g 4 cX10_prove X post) {K183 : ST → Prop} (hK183 : ∀ (M : ST), K183 M → Jw κ g 4 X M [(0, .ref (g.2.1 11))] 183 []) : ∀ (n : Nat) (M : ST) (l2 : Int32), wp_m_prove_133 K183 post n M l2 → Jw κ g 4 X M [(0, .ref (g.2.1 11)), (2, .int l2)] 133 [] := by
  intro n
  induction n with
  | zero =>
    intro M l2  h
    exact h.elim
  | succ n ih =>
    intro M l2  h
    have h : wp_m_prove_133_s K183 post (wp_m_prove_133 K183 post n) M l2 := h
    unfold wp_m_prove_133_s at h
    refine j_iload_n (pc' := 134) hκ 1 rfl rfl dX10_prove_133 rfl ?_
    refine j_aload_n (pc' := 135) hκ 0 rfl rfl dX10_prove_134 rfl ?_
    refine jg_11_35 (pc' := 138) hκ (mi inlX10) (fl_in hκ (mc wm_41_23)) dX10_prove_135 rfl ?_
    refine j_icmp_ge (tgt := 183) (pc' := 141) hκ dX10_prove_138 (by decide) rfl (fun c => ?_) (fun c => ?_)
    · replace h := h.1 c
      refine j_sub [0] rfl ?_
      exact hK183 _  h
    · replace h := h.2 c
      refine j_aload_n (pc' := 142) hκ 0 rfl rfl dX10_prove_141 rfl ?_
      refine jg_11_18 (pc' := 145) hκ (mi inlX10) (fl_in hκ (mc wm_8_0)) dX10_prove_142 rfl ?_
      refine j_iload_n (pc' := 146) hκ 1 rfl rfl dX10_prove_145 rfl ?_
      refine j_aload_n (pc' := 147) hκ 0 rfl rfl dX10_prove_146 rfl ?_
      refine jg_11_32 (pc' := 150) hκ (mi inlX10) (fl_in hκ (mc wm_8_12)) dX10_prove_147 rfl ?_
      refine j_iload_n (pc' := 151) hκ 1 rfl rfl dX10_prove_150 rfl ?_
      refine jm_iald (pc' := 152) hκ (ah_73 g) h.1 dX10_prove_151 rfl ?_
      replace h := h.2
      refine jm_iast (pc' := 153) hκ (ah_61 g) h.1 dX10_prove_152 rfl ?_
      replace h := h.2
      refine j_nmM (fun M22 eM22 => ?_)
      replace h := h M22 eM22
      refine j_aload_n (pc' := 154) hκ 0 rfl rfl dX10_prove_153 rfl ?_
      refine jg_11_19 (pc' := 157) hκ (mi inlX10) (fl_in hκ (mc wm_8_1)) dX10_prove_154 rfl ?_
      refine j_iload_n (pc' := 158) hκ 1 rfl rfl dX10_prove_157 rfl ?_
      refine j_aload_n (pc' := 159) hκ 0 rfl rfl dX10_prove_158 rfl ?_
      refine jg_11_33 (pc' := 162) hκ (mi inlX10) (fl_in hκ (mc wm_8_13)) dX10_prove_159 rfl ?_
      refine j_iload_n (pc' := 163) hκ 1 rfl rfl dX10_prove_162 rfl ?_
      refine jm_iald (pc' := 164) hκ (ah_74 g) h.1 dX10_prove_163 rfl ?_
      replace h := h.2
      refine jm_iast (pc' := 165) hκ (ah_62 g) h.1 dX10_prove_164 rfl ?_
      replace h := h.2
      refine j_nmM (fun M23 eM23 => ?_)
      replace h := h M23 eM23
      refine j_aload_n (pc' := 166) hκ 0 rfl rfl dX10_prove_165 rfl ?_
      refine jg_11_20 (pc' := 169) hκ (mi inlX10) (fl_in hκ (mc wm_8_2)) dX10_prove_166 rfl ?_
      refine j_iload_n (pc' := 170) hκ 1 rfl rfl dX10_prove_169 rfl ?_
      refine j_aload_n (pc' := 171) hκ 0 rfl rfl dX10_prove_170 rfl ?_
      refine jg_11_34 (pc' := 174) hκ (mi inlX10) (fl_in hκ (mc wm_8_14)) dX10_prove_171 rfl ?_
      refine j_iload_n (pc' := 175) hκ 1 rfl rfl dX10_prove_174 rfl ?_
      refine jm_iald (pc' := 176) hκ (ah_75 g) h.1 dX10_prove_175 rfl ?_
      replace h := h.2
      refine jm_iast (pc' := 177) hκ (ah_63 g) h.1 dX10_prove_176 rfl ?_
      replace h := h.2
      refine j_nmM (fun M24 eM24 => ?_)
      replace h := h M24 eM24
      refine j_iinc (pc' := 180) (v := l2 + 1) (lv' := [(2, .int (l2 + 1)), (0, .ref (g.2.1 11))]) hκ 1 rfl rfl (Nat.le_of_ble_eq_true rfl) rfl dX10_prove_177 rfl ?_
      refine j_goto (pc' := 133) hκ (by decide) dX10_prove_180 ?_
      refine j_sub [1, 0] rfl ?_
      exact ih _ _  h
def wp_m_prove (M : ST) (p1 : Int32) (post : Int32 → ST → Prop) : Prop :=
  (0 ≤ p1 → (wp_m_lit M (fun r2 M1 => (3 ≤ r2 → (∀ M3 : ST, M3 = ms_news M1 0 → ∀ M4 : ST, M4 = ms_waits M3 0 → wp_m_freeAll M4 (fun M5 => wp_m_pushCase M5 (fun M7 => ∃ n, wp_m_prove_35 (fun M19 => post (-9) M19) (fun M20 => ∀ M21 : ST, M21 = ms_lines M20 (m_news M20) → ∃ n, wp_m_prove_133 (fun M25 => post (m_lines M25) M25) post n M21 0) post n M7 p1)))) ∧ (¬ 3 ≤ r2 → (post (-4) M1))))) ∧ (¬ 0 ≤ p1 → (post (-1) M))
set_option maxHeartbeats 4000000 in
set_option maxRecDepth 100000 in
theorem lb_m_prove {κ : Cx} {g : Gx} {X : ST} (hκ : CF κ g RX10 cX10_prove wq_X10_prove 4 rm_m_prove) {post : Int32 → ST → Prop} (hR : RtmI κ g 4 cX10_prove X post) {M : ST} {p1 : Int32} (h : wp_m_prove M p1 post) : Jw κ g 4 X M [(0, .ref (g.2.1 11)), (1, .int p1)] 0 [] := by
  unfold wp_m_prove at h
  refine j_iload_n (pc' := 1) hκ 1 rfl rfl dX10_prove_0 rfl ?_
  refine j_if_ge (tgt := 6) (pc' := 4) hκ dX10_prove_1 (by decide) rfl (fun c => ?_) (fun c => ?_)
  · replace h := h.1 c
    refine j_aload_n (pc' := 7) hκ 0 rfl rfl dX10_prove_6 rfl ?_
    refine jm_callVi (pc' := 10) hκ (c_m_lit (dg hκ) h) rfl rfl rfl (gV wm_21_16 wm_21_17 wm_21_18 wm_1_5 wm_21_19) hqV_X10_lit ⟨Nat.le_of_ble_eq_true rfl, Nat.le_of_ble_eq_true rfl⟩ (wg_11 g _ _) rfl rfl rfl (Nat.le_of_ble_eq_true rfl) dX10_prove_7 rfl (fun r2 M1 h => ?_)
    refine j_iconst (pc' := 11) (v := 3) hκ (by decide) dX10_prove_10 rfl ?_
    refine j_icmp_ge (tgt := 17) (pc' := 14) hκ dX10_prove_11 (by decide) rfl (fun c => ?_) (fun c => ?_)
    · replace h := h.1 c
      refine j_aload_n (pc' := 18) hκ 0 rfl rfl dX10_prove_17 rfl ?_
      refine j_iconst (pc' := 19) (v := 0) hκ (by decide) dX10_prove_18 rfl ?_
      refine jp_11_35 (pc' := 22) hκ (mi inlX10) (fl_in hκ (mc wm_41_23)) dX10_prove_19 rfl ?_
      refine j_nmM (fun M3 eM3 => ?_)
      replace h := h M3 eM3
      refine j_aload_n (pc' := 23) hκ 0 rfl rfl dX10_prove_22 rfl ?_
      refine j_iconst (pc' := 24) (v := 0) hκ (by decide) dX10_prove_23 rfl ?_
      refine jp_11_30 (pc' := 27) hκ (mi inlX10) (fl_in hκ (mc wm_42_0)) dX10_prove_24 rfl ?_
      refine j_nmM (fun M4 eM4 => ?_)
      replace h := h M4 eM4
      refine j_aload_n (pc' := 28) hκ 0 rfl rfl dX10_prove_27 rfl ?_
      refine jm_callVv (pc' := 31) hκ (c_m_freeAll (dg hκ) h) rfl rfl rfl (gV wm_36_2 wm_36_3 wm_36_4 wm_1_5 wm_36_5) hqV_X10_freeAll ⟨Nat.le_of_ble_eq_true rfl, Nat.le_of_ble_eq_true rfl⟩ (wg_11 g _ _) rfl rfl rfl (Nat.le_of_ble_eq_true rfl) dX10_prove_28 rfl (fun M5 h => ?_)
      refine j_aload_n (pc' := 32) hκ 0 rfl rfl dX10_prove_31 rfl ?_
      refine jm_callVv (pc' := 35) hκ (c_m_pushCase (dg hκ) h) rfl rfl rfl (gV wm_42_1 wm_42_2 wm_42_3 wm_1_5 wm_42_4) hqV_X10_pushCase ⟨Nat.le_of_ble_eq_true rfl, Nat.le_of_ble_eq_true rfl⟩ (wg_11 g _ _) rfl rfl rfl (Nat.le_of_ble_eq_true rfl) dX10_prove_32 rfl (fun M7 h => ?_)
      obtain ⟨n, h⟩ := h
      refine lb_m_prove_35 hκ hR ?_ ?_ n _ _  h
      · intro M19  h
        refine j_bipush (pc' := 103) (v := (-9)) hκ (by decide) dX10_prove_101 rfl ?_
        exact hR _ _ _ _ dX10_prove_103 h
      · intro M20  h
        refine j_aload_n (pc' := 124) hκ 0 rfl rfl dX10_prove_123 rfl ?_
        refine j_aload_n (pc' := 125) hκ 0 rfl rfl dX10_prove_124 rfl ?_
        refine jg_11_35 (pc' := 128) hκ (mi inlX10) (fl_in hκ (mc wm_41_23)) dX10_prove_125 rfl ?_
        refine jp_11_17 (pc' := 131) hκ (mi inlX10) (fl_in hκ (mc wm_21_15)) dX10_prove_128 rfl ?_
        refine j_nmM (fun M21 eM21 => ?_)
        replace h := h M21 eM21
        refine j_iconst (pc' := 132) (v := 0) hκ (by decide) dX10_prove_131 rfl ?_
        refine j_istore_n (pc' := 133) (lv' := [(2, .int 0), (0, .ref (g.2.1 11))]) hκ (Nat.le_of_ble_eq_true rfl) rfl rfl dX10_prove_132 rfl ?_
        obtain ⟨n, h⟩ := h
        refine j_sub [1, 0] rfl ?_
        refine lb_m_prove_133 hκ hR ?_ n _ _  h
        intro M25  h
        refine j_aload_n (pc' := 184) hκ 0 rfl rfl dX10_prove_183 rfl ?_
        refine jg_11_17 (pc' := 187) hκ (mi inlX10) (fl_in hκ (mc wm_21_15)) dX10_prove_184 rfl ?_
        exact hR _ _ _ _ dX10_prove_187 h
    · replace h := h.2 c
      refine j_bipush (pc' := 16) (v := (-4)) hκ (by decide) dX10_prove_14 rfl ?_
      exact hR _ _ _ _ dX10_prove_16 h
  · replace h := h.2 c
    refine j_iconst (pc' := 5) (v := (-1)) hκ (by decide) dX10_prove_4 rfl ?_
    exact hR _ _ _ _ dX10_prove_5 h
theorem c_m_prove {g : Gx} (hg : Dg g) {X M : ST} {p1 : Int32} {post : Int32 → ST → Prop} (h : wp_m_prove M p1 post) (l : Launch) : Met l yX10_prove wq_X10_prove rm_m_prove (va_Pc [.ref (g.2.1 11), .int p1] (PU g X M)) (va_Qi post (fun Y t => va_P g.1 vwCl (ww g X Y) t.heap) (wA g)) 0 0 (wA g) :=
  met_mi hg (by decide) rfl [.ref (g.2.1 11), .int p1] rfl (Nat.le_of_ble_eq_true rfl) (fun κ hκ hR => lb_m_prove hκ hR h) l
abbrev rm_m_alter : Room := { frames := 0, cells := 0, slots := 0, locals := 0 }
def wp_m_alter (M : ST) (p1 : Int32) (p2 : Int32) (p3 : Int32) (p4 : Int32) (post : Int32 → ST → Prop) : Prop :=
  (p1 < 0 → (post (-1) M)) ∧ (¬ p1 < 0 → (((m_lines M) ≤ p1 → (post (-1) M)) ∧ (¬ (m_lines M) ≤ p1 → ((p2 < 1 → (post (-1) M)) ∧ (¬ p2 < 1 → ((p2 ≤ 6 → (vp_in p1 400 ∧ (∀ M1 : ST, M1 = ms_op M (upd (m_op M) p1.toNatClampNeg p2) → vp_in p1 400 ∧ (∀ M2 : ST, M2 = ms_left M1 (upd (m_left M1) p1.toNatClampNeg p3) → vp_in p1 400 ∧ (∀ M3 : ST, M3 = ms_right M2 (upd (m_right M2) p1.toNatClampNeg p4) → post 1 M3))))) ∧ (¬ p2 ≤ 6 → (post (-1) M))))))))
set_option maxHeartbeats 4000000 in
set_option maxRecDepth 100000 in
theorem lb_m_alter {κ : Cx} {g : Gx} {X : ST} (hκ : CF κ g RX10 cX10_alter wq_X10_alter 5 rm_m_alter) {post : Int32 → ST → Prop} (hR : RtmI κ g 5 cX10_alter X post) {M : ST} {p1 : Int32} {p2 : Int32} {p3 : Int32} {p4 : Int32} (h : wp_m_alter M p1 p2 p3 p4 post) : Jw κ g 5 X M [(0, .ref (g.2.1 11)), (1, .int p1), (2, .int p2), (3, .int p3), (4, .int p4)] 0 [] := by
  unfold wp_m_alter at h
  refine j_iload_n (pc' := 1) hκ 1 rfl rfl dX10_alter_0 rfl ?_
  refine j_if_lt (tgt := 23) (pc' := 4) hκ dX10_alter_1 (by decide) rfl (fun c => ?_) (fun c => ?_)
  · replace h := h.1 c
    refine j_iconst (pc' := 24) (v := (-1)) hκ (by decide) dX10_alter_23 rfl ?_
    exact hR _ _ _ _ dX10_alter_24 h
  · replace h := h.2 c
    refine j_iload_n (pc' := 5) hκ 1 rfl rfl dX10_alter_4 rfl ?_
    refine j_aload_n (pc' := 6) hκ 0 rfl rfl dX10_alter_5 rfl ?_
    refine jg_11_17 (pc' := 9) hκ (mi inlX10) (fl_in hκ (mc wm_21_15)) dX10_alter_6 rfl ?_
    refine j_icmp_ge (tgt := 23) (pc' := 12) hκ dX10_alter_9 (by decide) rfl (fun c => ?_) (fun c => ?_)
    · replace h := h.1 c
      refine j_iconst (pc' := 24) (v := (-1)) hκ (by decide) dX10_alter_23 rfl ?_
      exact hR _ _ _ _ dX10_alter_24 h
    · replace h := h.2 c
      refine j_iload_n (pc' := 13) hκ 2 rfl rfl dX10_alter_12 rfl ?_
      refine j_iconst (pc' := 14) (v := 1) hκ (by decide) dX10_alter_13 rfl ?_
      refine j_icmp_lt (tgt := 23) (pc' := 17) hκ dX10_alter_14 (by decide) rfl (fun c => ?_) (fun c => ?_)
      · replace h := h.1 c
        refine j_iconst (pc' := 24) (v := (-1)) hκ (by decide) dX10_alter_23 rfl ?_
        exact hR _ _ _ _ dX10_alter_24 h
      · replace h := h.2 c
        refine j_iload_n (pc' := 18) hκ 2 rfl rfl dX10_alter_17 rfl ?_
        refine j_bipush (pc' := 20) (v := 6) hκ (by decide) dX10_alter_18 rfl ?_
        refine j_icmp_le (tgt := 25) (pc' := 23) hκ dX10_alter_20 (by decide) rfl (fun c => ?_) (fun c => ?_)
        · replace h := h.1 c
          refine j_aload_n (pc' := 26) hκ 0 rfl rfl dX10_alter_25 rfl ?_
          refine jg_11_18 (pc' := 29) hκ (mi inlX10) (fl_in hκ (mc wm_8_0)) dX10_alter_26 rfl ?_
          refine j_iload_n (pc' := 30) hκ 1 rfl rfl dX10_alter_29 rfl ?_
          refine j_iload_n (pc' := 31) hκ 2 rfl rfl dX10_alter_30 rfl ?_
          refine jm_iast (pc' := 32) hκ (ah_61 g) h.1 dX10_alter_31 rfl ?_
          replace h := h.2
          refine j_nmM (fun M1 eM1 => ?_)
          replace h := h M1 eM1
          refine j_aload_n (pc' := 33) hκ 0 rfl rfl dX10_alter_32 rfl ?_
          refine jg_11_19 (pc' := 36) hκ (mi inlX10) (fl_in hκ (mc wm_8_1)) dX10_alter_33 rfl ?_
          refine j_iload_n (pc' := 37) hκ 1 rfl rfl dX10_alter_36 rfl ?_
          refine j_iload_n (pc' := 38) hκ 3 rfl rfl dX10_alter_37 rfl ?_
          refine jm_iast (pc' := 39) hκ (ah_62 g) h.1 dX10_alter_38 rfl ?_
          replace h := h.2
          refine j_nmM (fun M2 eM2 => ?_)
          replace h := h M2 eM2
          refine j_aload_n (pc' := 40) hκ 0 rfl rfl dX10_alter_39 rfl ?_
          refine jg_11_20 (pc' := 43) hκ (mi inlX10) (fl_in hκ (mc wm_8_2)) dX10_alter_40 rfl ?_
          refine j_iload_n (pc' := 44) hκ 1 rfl rfl dX10_alter_43 rfl ?_
          refine j_iload (pc' := 46) hκ 4 rfl dX10_alter_44 rfl ?_
          refine jm_iast (pc' := 47) hκ (ah_63 g) h.1 dX10_alter_46 rfl ?_
          replace h := h.2
          refine j_nmM (fun M3 eM3 => ?_)
          replace h := h M3 eM3
          refine j_iconst (pc' := 48) (v := 1) hκ (by decide) dX10_alter_47 rfl ?_
          exact hR _ _ _ _ dX10_alter_48 h
        · replace h := h.2 c
          refine j_iconst (pc' := 24) (v := (-1)) hκ (by decide) dX10_alter_23 rfl ?_
          exact hR _ _ _ _ dX10_alter_24 h
theorem c_m_alter {g : Gx} (hg : Dg g) {X M : ST} {p1 : Int32} {p2 : Int32} {p3 : Int32} {p4 : Int32} {post : Int32 → ST → Prop} (h : wp_m_alter M p1 p2 p3 p4 post) (l : Launch) : Met l yX10_alter wq_X10_alter rm_m_alter (va_Pc [.ref (g.2.1 11), .int p1, .int p2, .int p3, .int p4] (PU g X M)) (va_Qi post (fun Y t => va_P g.1 vwCl (ww g X Y) t.heap) (wA g)) 0 0 (wA g) :=
  met_mi hg (by decide) rfl [.ref (g.2.1 11), .int p1, .int p2, .int p3, .int p4] rfl (Nat.le_of_ble_eq_true rfl) (fun κ hκ hR => lb_m_alter hκ hR h) l
theorem wm_44_20 : Cond.methodLink RX10 289 yX10_alter ∈ wAll := inr_44 (List.mem_of_getElem? (i := 20) rfl)
theorem wm_44_21 : Cond.instanceMethod yX10_alter ∈ wAll := inr_44 (List.mem_of_getElem? (i := 21) rfl)
theorem wm_44_22 : Cond.selects RX10 yX10_alter yX10_alter ∈ wAll := inr_44 (List.mem_of_getElem? (i := 22) rfl)
theorem wm_44_23 : Cond.code yX10_alter cX10_alter 5 (some .int) ∈ wAll := inr_44 (List.mem_of_getElem? (i := 23) rfl)
theorem hqV_X10_alter : yX10_alter.cls = RX10 ∧ yX10_alter.cls ≠ "java/lang/invoke/MethodHandle" ∧ yX10_alter.cls ≠ "java/lang/invoke/VarHandle" ∧ (parseMethodDescriptor yX10_alter.desc).map (fun d => d.parameters.length) = some 4 := by decide +kernel
abbrev rm_m_line : Room := { frames := 1, cells := 0, slots := 0, locals := 24 }
def wp_m_line (M : ST) (p1 : Int32) (p2 : Int32) (p3 : Int32) (post : Int32 → ST → Prop) : Prop :=
  (p1 < 1 → (post (-1) M)) ∧ (¬ p1 < 1 → ((p1 ≤ 6 → ((¬ (m_lines M) = 400 → (∀ M1 : ST, M1 = ms_lines M ((m_lines M) + 1) → wp_m_alter M1 ((m_lines M1) - 1) p1 p2 p3 (fun r3 M2 => (¬ r3 = 1 → (post (-1) M2)) ∧ (r3 = 1 → (post (m_lines M2) M2))))) ∧ ((m_lines M) = 400 → (post (-2) M)))) ∧ (¬ p1 ≤ 6 → (post (-1) M))))
set_option maxHeartbeats 4000000 in
set_option maxRecDepth 100000 in
theorem lb_m_line {κ : Cx} {g : Gx} {X : ST} (hκ : CF κ g RX10 cX10_line wq_X10_line 4 rm_m_line) {post : Int32 → ST → Prop} (hR : RtmI κ g 4 cX10_line X post) {M : ST} {p1 : Int32} {p2 : Int32} {p3 : Int32} (h : wp_m_line M p1 p2 p3 post) : Jw κ g 4 X M [(0, .ref (g.2.1 11)), (1, .int p1), (2, .int p2), (3, .int p3)] 0 [] := by
  unfold wp_m_line at h
  refine j_iload_n (pc' := 1) hκ 1 rfl rfl dX10_line_0 rfl ?_
  refine j_iconst (pc' := 2) (v := 1) hκ (by decide) dX10_line_1 rfl ?_
  refine j_icmp_lt (tgt := 11) (pc' := 5) hκ dX10_line_2 (by decide) rfl (fun c => ?_) (fun c => ?_)
  · replace h := h.1 c
    refine j_iconst (pc' := 12) (v := (-1)) hκ (by decide) dX10_line_11 rfl ?_
    exact hR _ _ _ _ dX10_line_12 h
  · replace h := h.2 c
    refine j_iload_n (pc' := 6) hκ 1 rfl rfl dX10_line_5 rfl ?_
    refine j_bipush (pc' := 8) (v := 6) hκ (by decide) dX10_line_6 rfl ?_
    refine j_icmp_le (tgt := 13) (pc' := 11) hκ dX10_line_8 (by decide) rfl (fun c => ?_) (fun c => ?_)
    · replace h := h.1 c
      refine j_aload_n (pc' := 14) hκ 0 rfl rfl dX10_line_13 rfl ?_
      refine jg_11_17 (pc' := 17) hκ (mi inlX10) (fl_in hκ (mc wm_21_15)) dX10_line_14 rfl ?_
      refine j_sipush (pc' := 20) (v := 400) hκ (by decide) dX10_line_17 rfl ?_
      refine j_icmp_ne (tgt := 26) (pc' := 23) hκ dX10_line_20 (by decide) rfl (fun c => ?_) (fun c => ?_)
      · replace h := h.1 c
        refine j_aload_n (pc' := 27) hκ 0 rfl rfl dX10_line_26 rfl ?_
        refine j_dup (pc' := 28) hκ rfl dX10_line_27 rfl ?_
        refine jg_11_17 (pc' := 31) hκ (mi inlX10) (fl_in hκ (mc wm_21_15)) dX10_line_28 rfl ?_
        refine j_iconst (pc' := 32) (v := 1) hκ (by decide) dX10_line_31 rfl ?_
        refine j_iadd (pc' := 33) hκ dX10_line_32 rfl ?_
        refine jp_11_17 (pc' := 36) hκ (mi inlX10) (fl_in hκ (mc wm_21_15)) dX10_line_33 rfl ?_
        refine j_nmM (fun M1 eM1 => ?_)
        replace h := h M1 eM1
        refine j_aload_n (pc' := 37) hκ 0 rfl rfl dX10_line_36 rfl ?_
        refine j_aload_n (pc' := 38) hκ 0 rfl rfl dX10_line_37 rfl ?_
        refine jg_11_17 (pc' := 41) hκ (mi inlX10) (fl_in hκ (mc wm_21_15)) dX10_line_38 rfl ?_
        refine j_iconst (pc' := 42) (v := 1) hκ (by decide) dX10_line_41 rfl ?_
        refine j_isub (pc' := 43) hκ dX10_line_42 rfl ?_
        refine j_iload_n (pc' := 44) hκ 1 rfl rfl dX10_line_43 rfl ?_
        refine j_iload_n (pc' := 45) hκ 2 rfl rfl dX10_line_44 rfl ?_
        refine j_iload_n (pc' := 46) hκ 3 rfl rfl dX10_line_45 rfl ?_
        refine jm_callVi (pc' := 49) hκ (c_m_alter (dg hκ) h) rfl rfl rfl (gV wm_44_20 wm_44_21 wm_44_22 wm_1_5 wm_44_23) hqV_X10_alter ⟨Nat.le_of_ble_eq_true rfl, Nat.le_of_ble_eq_true rfl⟩ (wg_11 g _ _) rfl rfl rfl (Nat.le_of_ble_eq_true rfl) dX10_line_46 rfl (fun r3 M2 h => ?_)
        refine j_iconst (pc' := 50) (v := 1) hκ (by decide) dX10_line_49 rfl ?_
        refine j_icmp_ne (tgt := 60) (pc' := 53) hκ dX10_line_50 (by decide) rfl (fun c => ?_) (fun c => ?_)
        · replace h := h.1 c
          refine j_iconst (pc' := 61) (v := (-1)) hκ (by decide) dX10_line_60 rfl ?_
          exact hR _ _ _ _ dX10_line_61 h
        · replace h := h.2 c
          refine j_aload_n (pc' := 54) hκ 0 rfl rfl dX10_line_53 rfl ?_
          refine jg_11_17 (pc' := 57) hκ (mi inlX10) (fl_in hκ (mc wm_21_15)) dX10_line_54 rfl ?_
          refine j_goto (pc' := 61) hκ (by decide) dX10_line_57 ?_
          exact hR _ _ _ _ dX10_line_61 h
      · replace h := h.2 c
        refine j_bipush (pc' := 25) (v := (-2)) hκ (by decide) dX10_line_23 rfl ?_
        exact hR _ _ _ _ dX10_line_25 h
    · replace h := h.2 c
      refine j_iconst (pc' := 12) (v := (-1)) hκ (by decide) dX10_line_11 rfl ?_
      exact hR _ _ _ _ dX10_line_12 h
theorem c_m_line {g : Gx} (hg : Dg g) {X M : ST} {p1 : Int32} {p2 : Int32} {p3 : Int32} {post : Int32 → ST → Prop} (h : wp_m_line M p1 p2 p3 post) (l : Launch) : Met l yX10_line wq_X10_line rm_m_line (va_Pc [.ref (g.2.1 11), .int p1, .int p2, .int p3] (PU g X M)) (va_Qi post (fun Y t => va_P g.1 vwCl (ww g X Y) t.heap) (wA g)) 0 0 (wA g) :=
  met_mi hg (by decide) rfl [.ref (g.2.1 11), .int p1, .int p2, .int p3] rfl (Nat.le_of_ble_eq_true rfl) (fun κ hκ hR => lb_m_line hκ hR h) l
abbrev rm_m_cut : Room := { frames := 0, cells := 0, slots := 0, locals := 0 }
def wp_m_cut (M : ST) (p1 : Int32) (post : Int32 → ST → Prop) : Prop :=
  (p1 < 0 → (post (-1) M)) ∧ (¬ p1 < 0 → ((p1 ≤ (m_lines M) → (∀ M1 : ST, M1 = ms_lines M p1 → post p1 M1)) ∧ (¬ p1 ≤ (m_lines M) → (post (-1) M))))
set_option maxHeartbeats 4000000 in
set_option maxRecDepth 100000 in
theorem lb_m_cut {κ : Cx} {g : Gx} {X : ST} (hκ : CF κ g RX10 cX10_cut wq_X10_cut 2 rm_m_cut) {post : Int32 → ST → Prop} (hR : RtmI κ g 2 cX10_cut X post) {M : ST} {p1 : Int32} (h : wp_m_cut M p1 post) : Jw κ g 2 X M [(0, .ref (g.2.1 11)), (1, .int p1)] 0 [] := by
  unfold wp_m_cut at h
  refine j_iload_n (pc' := 1) hκ 1 rfl rfl dX10_cut_0 rfl ?_
  refine j_if_lt (tgt := 12) (pc' := 4) hκ dX10_cut_1 (by decide) rfl (fun c => ?_) (fun c => ?_)
  · replace h := h.1 c
    refine j_iconst (pc' := 13) (v := (-1)) hκ (by decide) dX10_cut_12 rfl ?_
    exact hR _ _ _ _ dX10_cut_13 h
  · replace h := h.2 c
    refine j_iload_n (pc' := 5) hκ 1 rfl rfl dX10_cut_4 rfl ?_
    refine j_aload_n (pc' := 6) hκ 0 rfl rfl dX10_cut_5 rfl ?_
    refine jg_11_17 (pc' := 9) hκ (mi inlX10) (fl_in hκ (mc wm_21_15)) dX10_cut_6 rfl ?_
    refine j_icmp_le (tgt := 14) (pc' := 12) hκ dX10_cut_9 (by decide) rfl (fun c => ?_) (fun c => ?_)
    · replace h := h.1 c
      refine j_aload_n (pc' := 15) hκ 0 rfl rfl dX10_cut_14 rfl ?_
      refine j_iload_n (pc' := 16) hκ 1 rfl rfl dX10_cut_15 rfl ?_
      refine jp_11_17 (pc' := 19) hκ (mi inlX10) (fl_in hκ (mc wm_21_15)) dX10_cut_16 rfl ?_
      refine j_nmM (fun M1 eM1 => ?_)
      replace h := h M1 eM1
      refine j_iload_n (pc' := 20) hκ 1 rfl rfl dX10_cut_19 rfl ?_
      exact hR _ _ _ _ dX10_cut_20 h
    · replace h := h.2 c
      refine j_iconst (pc' := 13) (v := (-1)) hκ (by decide) dX10_cut_12 rfl ?_
      exact hR _ _ _ _ dX10_cut_13 h
theorem c_m_cut {g : Gx} (hg : Dg g) {X M : ST} {p1 : Int32} {post : Int32 → ST → Prop} (h : wp_m_cut M p1 post) (l : Launch) : Met l yX10_cut wq_X10_cut rm_m_cut (va_Pc [.ref (g.2.1 11), .int p1] (PU g X M)) (va_Qi post (fun Y t => va_P g.1 vwCl (ww g X Y) t.heap) (wA g)) 0 0 (wA g) :=
  met_mi hg (by decide) rfl [.ref (g.2.1 11), .int p1] rfl (Nat.le_of_ble_eq_true rfl) (fun κ hκ hR => lb_m_cut hκ hR h) l
abbrev rm_m_shown : Room := { frames := 0, cells := 0, slots := 0, locals := 0 }
def wp_m_shown (M : ST) (p1 : Int32) (p2 : Int32) (post : Int32 → ST → Prop) : Prop :=
  (p1 < 0 → (post (-2147483648) M)) ∧ (¬ p1 < 0 → (((m_lines M) ≤ p1 → (post (-2147483648) M)) ∧ (¬ (m_lines M) ≤ p1 → ((p2 < 0 → (post (-2147483648) M)) ∧ (¬ p2 < 0 → ((p2 ≤ 2 → ((¬ p2 = 0 → ((¬ p2 = 1 → (vp_in p1 400 ∧ (post (m_right M p1.toNatClampNeg) M))) ∧ (p2 = 1 → (vp_in p1 400 ∧ (post (m_left M p1.toNatClampNeg) M))))) ∧ (p2 = 0 → (vp_in p1 400 ∧ (post (m_op M p1.toNatClampNeg) M))))) ∧ (¬ p2 ≤ 2 → (post (-2147483648) M))))))))
set_option maxHeartbeats 4000000 in
set_option maxRecDepth 100000 in
theorem lb_m_shown {κ : Cx} {g : Gx} {X : ST} (hκ : CF κ g RX10 cX10_shown wq_X10_shown 3 rm_m_shown) {post : Int32 → ST → Prop} (hR : RtmI κ g 3 cX10_shown X post) {M : ST} {p1 : Int32} {p2 : Int32} (h : wp_m_shown M p1 p2 post) : Jw κ g 3 X M [(0, .ref (g.2.1 11)), (1, .int p1), (2, .int p2)] 0 [] := by
  unfold wp_m_shown at h
  refine j_iload_n (pc' := 1) hκ 1 rfl rfl dX10_shown_0 rfl ?_
  refine j_if_lt (tgt := 21) (pc' := 4) hκ dX10_shown_1 (by decide) rfl (fun c => ?_) (fun c => ?_)
  · replace h := h.1 c
    refine j_ldc (pc' := 23) hκ (mc wm_20_14) dX10_shown_21 rfl ?_
    exact hR _ _ _ _ dX10_shown_23 h
  · replace h := h.2 c
    refine j_iload_n (pc' := 5) hκ 1 rfl rfl dX10_shown_4 rfl ?_
    refine j_aload_n (pc' := 6) hκ 0 rfl rfl dX10_shown_5 rfl ?_
    refine jg_11_17 (pc' := 9) hκ (mi inlX10) (fl_in hκ (mc wm_21_15)) dX10_shown_6 rfl ?_
    refine j_icmp_ge (tgt := 21) (pc' := 12) hκ dX10_shown_9 (by decide) rfl (fun c => ?_) (fun c => ?_)
    · replace h := h.1 c
      refine j_ldc (pc' := 23) hκ (mc wm_20_14) dX10_shown_21 rfl ?_
      exact hR _ _ _ _ dX10_shown_23 h
    · replace h := h.2 c
      refine j_iload_n (pc' := 13) hκ 2 rfl rfl dX10_shown_12 rfl ?_
      refine j_if_lt (tgt := 21) (pc' := 16) hκ dX10_shown_13 (by decide) rfl (fun c => ?_) (fun c => ?_)
      · replace h := h.1 c
        refine j_ldc (pc' := 23) hκ (mc wm_20_14) dX10_shown_21 rfl ?_
        exact hR _ _ _ _ dX10_shown_23 h
      · replace h := h.2 c
        refine j_iload_n (pc' := 17) hκ 2 rfl rfl dX10_shown_16 rfl ?_
        refine j_iconst (pc' := 18) (v := 2) hκ (by decide) dX10_shown_17 rfl ?_
        refine j_icmp_le (tgt := 24) (pc' := 21) hκ dX10_shown_18 (by decide) rfl (fun c => ?_) (fun c => ?_)
        · replace h := h.1 c
          refine j_iload_n (pc' := 25) hκ 2 rfl rfl dX10_shown_24 rfl ?_
          refine j_if_ne (tgt := 37) (pc' := 28) hκ dX10_shown_25 (by decide) rfl (fun c => ?_) (fun c => ?_)
          · replace h := h.1 c
            refine j_iload_n (pc' := 38) hκ 2 rfl rfl dX10_shown_37 rfl ?_
            refine j_iconst (pc' := 39) (v := 1) hκ (by decide) dX10_shown_38 rfl ?_
            refine j_icmp_ne (tgt := 51) (pc' := 42) hκ dX10_shown_39 (by decide) rfl (fun c => ?_) (fun c => ?_)
            · replace h := h.1 c
              refine j_aload_n (pc' := 52) hκ 0 rfl rfl dX10_shown_51 rfl ?_
              refine jg_11_20 (pc' := 55) hκ (mi inlX10) (fl_in hκ (mc wm_8_2)) dX10_shown_52 rfl ?_
              refine j_iload_n (pc' := 56) hκ 1 rfl rfl dX10_shown_55 rfl ?_
              refine jm_iald (pc' := 57) hκ (ah_63 g) h.1 dX10_shown_56 rfl ?_
              replace h := h.2
              exact hR _ _ _ _ dX10_shown_57 h
            · replace h := h.2 c
              refine j_aload_n (pc' := 43) hκ 0 rfl rfl dX10_shown_42 rfl ?_
              refine jg_11_19 (pc' := 46) hκ (mi inlX10) (fl_in hκ (mc wm_8_1)) dX10_shown_43 rfl ?_
              refine j_iload_n (pc' := 47) hκ 1 rfl rfl dX10_shown_46 rfl ?_
              refine jm_iald (pc' := 48) hκ (ah_62 g) h.1 dX10_shown_47 rfl ?_
              replace h := h.2
              refine j_goto (pc' := 57) hκ (by decide) dX10_shown_48 ?_
              exact hR _ _ _ _ dX10_shown_57 h
          · replace h := h.2 c
            refine j_aload_n (pc' := 29) hκ 0 rfl rfl dX10_shown_28 rfl ?_
            refine jg_11_18 (pc' := 32) hκ (mi inlX10) (fl_in hκ (mc wm_8_0)) dX10_shown_29 rfl ?_
            refine j_iload_n (pc' := 33) hκ 1 rfl rfl dX10_shown_32 rfl ?_
            refine jm_iald (pc' := 34) hκ (ah_61 g) h.1 dX10_shown_33 rfl ?_
            replace h := h.2
            refine j_goto (pc' := 57) hκ (by decide) dX10_shown_34 ?_
            exact hR _ _ _ _ dX10_shown_57 h
        · replace h := h.2 c
          refine j_ldc (pc' := 23) hκ (mc wm_20_14) dX10_shown_21 rfl ?_
          exact hR _ _ _ _ dX10_shown_23 h
theorem c_m_shown {g : Gx} (hg : Dg g) {X M : ST} {p1 : Int32} {p2 : Int32} {post : Int32 → ST → Prop} (h : wp_m_shown M p1 p2 post) (l : Launch) : Met l yX10_shown wq_X10_shown rm_m_shown (va_Pc [.ref (g.2.1 11), .int p1, .int p2] (PU g X M)) (va_Qi post (fun Y t => va_P g.1 vwCl (ww g X Y) t.heap) (wA g)) 0 0 (wA g) :=
  met_mi hg (by decide) rfl [.ref (g.2.1 11), .int p1, .int p2] rfl (Nat.le_of_ble_eq_true rfl) (fun κ hκ hR => lb_m_shown hκ hR h) l
abbrev rm_m_check : Room := { frames := 6, cells := 0, slots := 0, locals := 144 }
def wp_m_check_33_s (K78 : ST → Int32 → Prop) (K112 : ST → Int32 → Prop) (post : Int32 → ST → Prop) (rec : ST → Int32 → Int32 → Prop) (M : ST) (l1 : Int32) (l2 : Int32) : Prop :=
  ((m_waits M) ≤ 0 → (K112 M l2)) ∧ (¬ (m_waits M) ≤ 0 → (((m_lines M) ≤ l2 → (K112 M l2)) ∧ (¬ (m_lines M) ≤ l2 → (wp_m_popCase M (fun M8 => vp_in l2 400 ∧ (vp_in l2 400 ∧ (vp_in l2 400 ∧ (wp_m_stands M8 (m_op M8 l2.toNatClampNeg) (m_left M8 l2.toNatClampNeg) (m_right M8 l2.toNatClampNeg) l1 (fun r11 M10 => (¬ r11 = 0 → (vp_in l2 400 ∧ ((¬ (m_op M10 l2.toNatClampNeg) = 1 → (rec M10 l1 (l2 + 1))) ∧ ((m_op M10 l2.toNatClampNeg) = 1 → (vp_in l2 400 ∧ (vp_in l2 400 ∧ (wp_m_part M10 (m_left M10 l2.toNatClampNeg) (m_right M10 l2.toNatClampNeg) (fun M12 => rec M12 l1 (l2 + 1))))))))) ∧ (r11 = 0 → (K78 M10 l2)))))))))))
def wp_m_check_33 (K78 : ST → Int32 → Prop) (K112 : ST → Int32 → Prop) (post : Int32 → ST → Prop) : Nat → ST → Int32 → Int32 → Prop
  | 0 => fun _ _ _ => False
  | n + 1 => wp_m_check_33_s K78 K112 post (wp_m_check_33 K78 K112 post n)
set_option maxHeartbeats 4000000 in
set_option maxRecDepth 100000 in
theorem lb_m_check_33 {κ : Cx} {g : Gx} {X : ST} (hκ : CF κ g RX10 cX10_check wq_X10_check 3 rm_m_check) {post : Int32 → ST → Prop} (hR : RtmI κ g 3 cX10_check X post) {K78 : ST → Int32 → Prop} {K112 : ST → Int32 → Prop} (hK78 : ∀ (M : ST) (l2 : Int32), K78 M l2 → Jw κ g 3 X M [(2, .int l2)] 78 []) (hK112 : ∀ (M : ST) (l2 : Int32), K112 M l2 → Jw κ g 3 X M [(0, .ref (g.2.1 11)), (2, .int l2)] 112 []) : ∀ (n : Nat) (M : ST) (l1 : Int32) (l2 : Int32), wp_m_check_33 K78 K112 post n M l1 l2 → Jw κ g 3 X M [(0, .ref (g.2.1 11)), (1, .int l1), (2, .int l2)] 33 [] := by
  intro n
  induction n with
  | zero =>
    intro M l1 l2  h
    exact h.elim
  | succ n ih =>
    intro M l1 l2  h
    have h : wp_m_check_33_s K78 K112 post (wp_m_check_33 K78 K112 post n) M l1 l2 := h
    unfold wp_m_check_33_s at h
    refine j_aload_n (pc' := 34) hκ 0 rfl rfl dX10_check_33 rfl ?_
    refine jg_11_30 (pc' := 37) hκ (mi inlX10) (fl_in hκ (mc wm_42_0)) dX10_check_34 rfl ?_
    refine j_if_le (tgt := 112) (pc' := 40) hκ dX10_check_37 (by decide) rfl (fun c => ?_) (fun c => ?_)
    · replace h := h.1 c
      refine j_sub [0, 2] rfl ?_
      exact hK112 _ _  h
    · replace h := h.2 c
      refine j_iload_n (pc' := 41) hκ 2 rfl rfl dX10_check_40 rfl ?_
      refine j_aload_n (pc' := 42) hκ 0 rfl rfl dX10_check_41 rfl ?_
      refine jg_11_17 (pc' := 45) hκ (mi inlX10) (fl_in hκ (mc wm_21_15)) dX10_check_42 rfl ?_
      refine j_icmp_ge (tgt := 112) (pc' := 48) hκ dX10_check_45 (by decide) rfl (fun c => ?_) (fun c => ?_)
      · replace h := h.1 c
        refine j_sub [0, 2] rfl ?_
        exact hK112 _ _  h
      · replace h := h.2 c
        refine j_aload_n (pc' := 49) hκ 0 rfl rfl dX10_check_48 rfl ?_
        refine jm_callVv (pc' := 52) hκ (c_m_popCase (dg hκ) h) rfl rfl rfl (gV wm_42_5 wm_42_6 wm_42_7 wm_1_5 wm_42_8) hqV_X10_popCase ⟨Nat.le_of_ble_eq_true rfl, Nat.le_of_ble_eq_true rfl⟩ (wg_11 g _ _) rfl rfl rfl (Nat.le_of_ble_eq_true rfl) dX10_check_49 rfl (fun M8 h => ?_)
        refine j_aload_n (pc' := 53) hκ 0 rfl rfl dX10_check_52 rfl ?_
        refine j_aload_n (pc' := 54) hκ 0 rfl rfl dX10_check_53 rfl ?_
        refine jg_11_18 (pc' := 57) hκ (mi inlX10) (fl_in hκ (mc wm_8_0)) dX10_check_54 rfl ?_
        refine j_iload_n (pc' := 58) hκ 2 rfl rfl dX10_check_57 rfl ?_
        refine jm_iald (pc' := 59) hκ (ah_61 g) h.1 dX10_check_58 rfl ?_
        replace h := h.2
        refine j_aload_n (pc' := 60) hκ 0 rfl rfl dX10_check_59 rfl ?_
        refine jg_11_19 (pc' := 63) hκ (mi inlX10) (fl_in hκ (mc wm_8_1)) dX10_check_60 rfl ?_
        refine j_iload_n (pc' := 64) hκ 2 rfl rfl dX10_check_63 rfl ?_
        refine jm_iald (pc' := 65) hκ (ah_62 g) h.1 dX10_check_64 rfl ?_
        replace h := h.2
        refine j_aload_n (pc' := 66) hκ 0 rfl rfl dX10_check_65 rfl ?_
        refine jg_11_20 (pc' := 69) hκ (mi inlX10) (fl_in hκ (mc wm_8_2)) dX10_check_66 rfl ?_
        refine j_iload_n (pc' := 70) hκ 2 rfl rfl dX10_check_69 rfl ?_
        refine jm_iald (pc' := 71) hκ (ah_63 g) h.1 dX10_check_70 rfl ?_
        replace h := h.2
        refine j_iload_n (pc' := 72) hκ 1 rfl rfl dX10_check_71 rfl ?_
        refine jm_callVi (pc' := 75) hκ (c_m_stands (dg hκ) h) rfl rfl rfl (gV wm_42_20 wm_42_21 wm_42_22 wm_1_5 wm_42_23) hqV_X10_stands ⟨Nat.le_of_ble_eq_true rfl, Nat.le_of_ble_eq_true rfl⟩ (wg_11 g _ _) rfl rfl rfl (Nat.le_of_ble_eq_true rfl) dX10_check_72 rfl (fun r11 M10 h => ?_)
        refine j_if_ne (tgt := 80) (pc' := 78) hκ dX10_check_75 (by decide) rfl (fun c => ?_) (fun c => ?_)
        · replace h := h.1 c
          refine j_aload_n (pc' := 81) hκ 0 rfl rfl dX10_check_80 rfl ?_
          refine jg_11_18 (pc' := 84) hκ (mi inlX10) (fl_in hκ (mc wm_8_0)) dX10_check_81 rfl ?_
          refine j_iload_n (pc' := 85) hκ 2 rfl rfl dX10_check_84 rfl ?_
          refine jm_iald (pc' := 86) hκ (ah_61 g) h.1 dX10_check_85 rfl ?_
          replace h := h.2
          refine j_iconst (pc' := 87) (v := 1) hκ (by decide) dX10_check_86 rfl ?_
          refine j_icmp_ne (tgt := 106) (pc' := 90) hκ dX10_check_87 (by decide) rfl (fun c => ?_) (fun c => ?_)
          · replace h := h.1 c
            refine j_iinc (pc' := 109) (v := l2 + 1) (lv' := [(2, .int (l2 + 1)), (0, .ref (g.2.1 11)), (1, .int l1)]) hκ 2 rfl rfl (Nat.le_of_ble_eq_true rfl) rfl dX10_check_106 rfl ?_
            refine j_goto (pc' := 33) hκ (by decide) dX10_check_109 ?_
            refine j_sub [1, 2, 0] rfl ?_
            exact ih _ _ _  h
          · replace h := h.2 c
            refine j_aload_n (pc' := 91) hκ 0 rfl rfl dX10_check_90 rfl ?_
            refine j_aload_n (pc' := 92) hκ 0 rfl rfl dX10_check_91 rfl ?_
            refine jg_11_19 (pc' := 95) hκ (mi inlX10) (fl_in hκ (mc wm_8_1)) dX10_check_92 rfl ?_
            refine j_iload_n (pc' := 96) hκ 2 rfl rfl dX10_check_95 rfl ?_
            refine jm_iald (pc' := 97) hκ (ah_62 g) h.1 dX10_check_96 rfl ?_
            replace h := h.2
            refine j_aload_n (pc' := 98) hκ 0 rfl rfl dX10_check_97 rfl ?_
            refine jg_11_20 (pc' := 101) hκ (mi inlX10) (fl_in hκ (mc wm_8_2)) dX10_check_98 rfl ?_
            refine j_iload_n (pc' := 102) hκ 2 rfl rfl dX10_check_101 rfl ?_
            refine jm_iald (pc' := 103) hκ (ah_63 g) h.1 dX10_check_102 rfl ?_
            replace h := h.2
            refine jm_callVv (pc' := 106) hκ (c_m_part (dg hκ) h) rfl rfl rfl (gV wm_44_4 wm_44_5 wm_44_6 wm_1_5 wm_44_7) hqV_X10_part ⟨Nat.le_of_ble_eq_true rfl, Nat.le_of_ble_eq_true rfl⟩ (wg_11 g _ _) rfl rfl rfl (Nat.le_of_ble_eq_true rfl) dX10_check_103 rfl (fun M12 h => ?_)
            refine j_iinc (pc' := 109) (v := l2 + 1) (lv' := [(2, .int (l2 + 1)), (0, .ref (g.2.1 11)), (1, .int l1)]) hκ 2 rfl rfl (Nat.le_of_ble_eq_true rfl) rfl dX10_check_106 rfl ?_
            refine j_goto (pc' := 33) hκ (by decide) dX10_check_109 ?_
            refine j_sub [1, 2, 0] rfl ?_
            exact ih _ _ _  h
        · replace h := h.2 c
          refine j_sub [2] rfl ?_
          exact hK78 _ _  h
def wp_m_check_112 (post : Int32 → ST → Prop) (M : ST) (l2 : Int32) : Prop :=
  (0 < (m_waits M) → (post l2 M)) ∧ (¬ 0 < (m_waits M) → (((m_lines M) ≤ l2 → (post (-1) M)) ∧ (¬ (m_lines M) ≤ l2 → (post l2 M))))
set_option maxHeartbeats 4000000 in
set_option maxRecDepth 100000 in
theorem lb_m_check_112 {κ : Cx} {g : Gx} {X : ST} (hκ : CF κ g RX10 cX10_check wq_X10_check 3 rm_m_check) {post : Int32 → ST → Prop} (hR : RtmI κ g 3 cX10_check X post) : ∀ (M : ST) (l2 : Int32), wp_m_check_112 post M l2 → Jw κ g 3 X M [(0, .ref (g.2.1 11)), (2, .int l2)] 112 [] := by
  intro M l2  h
  unfold wp_m_check_112 at h
  refine j_aload_n (pc' := 113) hκ 0 rfl rfl dX10_check_112 rfl ?_
  refine jg_11_30 (pc' := 116) hκ (mi inlX10) (fl_in hκ (mc wm_42_0)) dX10_check_113 rfl ?_
  refine j_if_gt (tgt := 127) (pc' := 119) hκ dX10_check_116 (by decide) rfl (fun c => ?_) (fun c => ?_)
  · replace h := h.1 c
    refine j_iload_n (pc' := 128) hκ 1 rfl rfl dX10_check_127 rfl ?_
    refine j_goto (pc' := 132) hκ (by decide) dX10_check_128 ?_
    exact hR _ _ _ _ dX10_check_132 h
  · replace h := h.2 c
    refine j_iload_n (pc' := 120) hκ 1 rfl rfl dX10_check_119 rfl ?_
    refine j_aload_n (pc' := 121) hκ 0 rfl rfl dX10_check_120 rfl ?_
    refine jg_11_17 (pc' := 124) hκ (mi inlX10) (fl_in hκ (mc wm_21_15)) dX10_check_121 rfl ?_
    refine j_icmp_ge (tgt := 131) (pc' := 127) hκ dX10_check_124 (by decide) rfl (fun c => ?_) (fun c => ?_)
    · replace h := h.1 c
      refine j_iconst (pc' := 132) (v := (-1)) hκ (by decide) dX10_check_131 rfl ?_
      exact hR _ _ _ _ dX10_check_132 h
    · replace h := h.2 c
      refine j_iload_n (pc' := 128) hκ 1 rfl rfl dX10_check_127 rfl ?_
      refine j_goto (pc' := 132) hκ (by decide) dX10_check_128 ?_
      exact hR _ _ _ _ dX10_check_132 h
def wp_m_check (M : ST) (p1 : Int32) (post : Int32 → ST → Prop) : Prop :=
  (0 ≤ p1 → (wp_m_lit M (fun r2 M1 => (3 ≤ r2 → (∀ M3 : ST, M3 = ms_waits M1 0 → wp_m_freeAll M3 (fun M4 => wp_m_pushCase M4 (fun M6 => ∃ n, wp_m_check_33 (fun M14 v15 => post v15 M14) (fun M16 v17 => wp_m_check_112 post M16 v17) post n M6 p1 0)))) ∧ (¬ 3 ≤ r2 → (post (-4) M1))))) ∧ (¬ 0 ≤ p1 → (post (-2) M))
set_option maxHeartbeats 4000000 in
set_option maxRecDepth 100000 in
theorem lb_m_check {κ : Cx} {g : Gx} {X : ST} (hκ : CF κ g RX10 cX10_check wq_X10_check 3 rm_m_check) {post : Int32 → ST → Prop} (hR : RtmI κ g 3 cX10_check X post) {M : ST} {p1 : Int32} (h : wp_m_check M p1 post) : Jw κ g 3 X M [(0, .ref (g.2.1 11)), (1, .int p1)] 0 [] := by
  unfold wp_m_check at h
  refine j_iload_n (pc' := 1) hκ 1 rfl rfl dX10_check_0 rfl ?_
  refine j_if_ge (tgt := 7) (pc' := 4) hκ dX10_check_1 (by decide) rfl (fun c => ?_) (fun c => ?_)
  · replace h := h.1 c
    refine j_aload_n (pc' := 8) hκ 0 rfl rfl dX10_check_7 rfl ?_
    refine jm_callVi (pc' := 11) hκ (c_m_lit (dg hκ) h) rfl rfl rfl (gV wm_21_16 wm_21_17 wm_21_18 wm_1_5 wm_21_19) hqV_X10_lit ⟨Nat.le_of_ble_eq_true rfl, Nat.le_of_ble_eq_true rfl⟩ (wg_11 g _ _) rfl rfl rfl (Nat.le_of_ble_eq_true rfl) dX10_check_8 rfl (fun r2 M1 h => ?_)
    refine j_iconst (pc' := 12) (v := 3) hκ (by decide) dX10_check_11 rfl ?_
    refine j_icmp_ge (tgt := 18) (pc' := 15) hκ dX10_check_12 (by decide) rfl (fun c => ?_) (fun c => ?_)
    · replace h := h.1 c
      refine j_aload_n (pc' := 19) hκ 0 rfl rfl dX10_check_18 rfl ?_
      refine j_iconst (pc' := 20) (v := 0) hκ (by decide) dX10_check_19 rfl ?_
      refine jp_11_30 (pc' := 23) hκ (mi inlX10) (fl_in hκ (mc wm_42_0)) dX10_check_20 rfl ?_
      refine j_nmM (fun M3 eM3 => ?_)
      replace h := h M3 eM3
      refine j_aload_n (pc' := 24) hκ 0 rfl rfl dX10_check_23 rfl ?_
      refine jm_callVv (pc' := 27) hκ (c_m_freeAll (dg hκ) h) rfl rfl rfl (gV wm_36_2 wm_36_3 wm_36_4 wm_1_5 wm_36_5) hqV_X10_freeAll ⟨Nat.le_of_ble_eq_true rfl, Nat.le_of_ble_eq_true rfl⟩ (wg_11 g _ _) rfl rfl rfl (Nat.le_of_ble_eq_true rfl) dX10_check_24 rfl (fun M4 h => ?_)
      refine j_aload_n (pc' := 28) hκ 0 rfl rfl dX10_check_27 rfl ?_
      refine jm_callVv (pc' := 31) hκ (c_m_pushCase (dg hκ) h) rfl rfl rfl (gV wm_42_1 wm_42_2 wm_42_3 wm_1_5 wm_42_4) hqV_X10_pushCase ⟨Nat.le_of_ble_eq_true rfl, Nat.le_of_ble_eq_true rfl⟩ (wg_11 g _ _) rfl rfl rfl (Nat.le_of_ble_eq_true rfl) dX10_check_28 rfl (fun M6 h => ?_)
      refine j_iconst (pc' := 32) (v := 0) hκ (by decide) dX10_check_31 rfl ?_
      refine j_istore_n (pc' := 33) (lv' := [(2, .int 0), (0, .ref (g.2.1 11)), (1, .int p1)]) hκ (Nat.le_of_ble_eq_true rfl) rfl rfl dX10_check_32 rfl ?_
      obtain ⟨n, h⟩ := h
      refine j_sub [1, 2, 0] rfl ?_
      refine lb_m_check_33 hκ hR ?_ ?_ n _ _ _  h
      · intro M14 v15  h
        refine j_iload_n (pc' := 79) hκ 0 rfl rfl dX10_check_78 rfl ?_
        exact hR _ _ _ _ dX10_check_79 h
      · intro M16 v17  h
        refine lb_m_check_112 hκ hR _ _  h
    · replace h := h.2 c
      refine j_bipush (pc' := 17) (v := (-4)) hκ (by decide) dX10_check_15 rfl ?_
      exact hR _ _ _ _ dX10_check_17 h
  · replace h := h.2 c
    refine j_bipush (pc' := 6) (v := (-2)) hκ (by decide) dX10_check_4 rfl ?_
    exact hR _ _ _ _ dX10_check_6 h
theorem c_m_check {g : Gx} (hg : Dg g) {X M : ST} {p1 : Int32} {post : Int32 → ST → Prop} (h : wp_m_check M p1 post) (l : Launch) : Met l yX10_check wq_X10_check rm_m_check (va_Pc [.ref (g.2.1 11), .int p1] (PU g X M)) (va_Qi post (fun Y t => va_P g.1 vwCl (ww g X Y) t.heap) (wA g)) 0 0 (wA g) :=
  met_mi hg (by decide) rfl [.ref (g.2.1 11), .int p1] rfl (Nat.le_of_ble_eq_true rfl) (fun κ hκ hR => lb_m_check hκ hR h) l
