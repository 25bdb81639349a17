theorem wm_36_6 : Cond.methodLink RX10 234 yX10_tree ∈ wAll := inr_36 (List.mem_of_getElem? (i := 6) rfl)
theorem wm_36_7 : Cond.instanceMethod yX10_tree ∈ wAll := inr_36 (List.mem_of_getElem? (i := 7) rfl)
theorem wm_36_8 : Cond.selects RX10 yX10_tree yX10_tree ∈ wAll := inr_36 (List.mem_of_getElem? (i := 8) rfl)
theorem wm_36_9 : Cond.code yX10_tree cX10_tree 7 (some .long) ∈ wAll := inr_36 (List.mem_of_getElem? (i := 9) rfl)
theorem hqV_X10_tree : yX10_tree.cls = RX10 ∧ yX10_tree.cls ≠ "java/lang/invoke/MethodHandle" ∧ yX10_tree.cls ≠ "java/lang/invoke/VarHandle" ∧ (parseMethodDescriptor yX10_tree.desc).map (fun d => d.parameters.length) = some 0 := by decide +kernel
abbrev rm_m_climb : Room := { frames := 5, cells := 0, slots := 0, locals := 120 }
def wp_m_climb_54_s (K94 : ST → Int32 → Int32 → Int32 → Prop) (post : Int32 → ST → Prop) (rec : ST → Int32 → Int32 → Int32 → Int32 → Prop) (M : ST) (l1 : Int32) (l2 : Int32) (l3 : Int32) (l4 : Int32) : Prop :=
  ((m_lamps M) ≤ l4 → (K94 M l1 l2 l3)) ∧ (¬ (m_lamps M) ≤ l4 → (vp_in l4 12 ∧ (vp_in l4 12 ∧ (((m_isOut M l4.toNatClampNeg) = 0 → (vp_in l4 12 ∧ (∀ M7 : ST, M7 = ms_price M (upd (m_price M) l4.toNatClampNeg ((m_price M l4.toNatClampNeg) - 2)) → rec M7 l1 l2 l3 (l4 + 1)))) ∧ (¬ (m_isOut M l4.toNatClampNeg) = 0 → (vp_in l4 12 ∧ (∀ M8 : ST, M8 = ms_price M (upd (m_price M) l4.toNatClampNeg ((m_price M l4.toNatClampNeg) - 0)) → rec M8 l1 l2 l3 (l4 + 1))))))))
def wp_m_climb_54 (K94 : ST → Int32 → Int32 → Int32 → Prop) (post : Int32 → ST → Prop) : Nat → ST → Int32 → Int32 → Int32 → Int32 → Prop
  | 0 => fun _ _ _ _ _ => False
  | n + 1 => wp_m_climb_54_s K94 post (wp_m_climb_54 K94 post n)
set_option maxHeartbeats 4000000 in
set_option maxRecDepth 100000 in
theorem lb_m_climb_54 {κ : Cx} {g : Gx} {X : ST} (hκ : CF κ g RX10 cX10_climb wq_X10_climb 5 rm_m_climb) {post : Int32 → ST → Prop} (hR : RtmI κ g 5 cX10_climb X post) {K94 : ST → Int32 → Int32 → Int32 → Prop} (hK94 : ∀ (M : ST) (l1 : Int32) (l2 : Int32) (l3 : Int32), K94 M l1 l2 l3 → Jw κ g 5 X M [(0, .ref (g.2.1 11)), (1, .int l1), (2, .int l2), (3, .int l3)] 94 []) : ∀ (n : Nat) (M : ST) (l1 : Int32) (l2 : Int32) (l3 : Int32) (l4 : Int32), wp_m_climb_54 K94 post n M l1 l2 l3 l4 → Jw κ g 5 X M [(0, .ref (g.2.1 11)), (1, .int l1), (2, .int l2), (3, .int l3), (4, .int l4)] 54 [] := by
  intro n
  induction n with
  | zero =>
    intro M l1 l2 l3 l4  h
    exact h.elim
  | succ n ih =>
    intro M l1 l2 l3 l4  h
    have h : wp_m_climb_54_s K94 post (wp_m_climb_54 K94 post n) M l1 l2 l3 l4 := h
    unfold wp_m_climb_54_s at h
    refine j_iload (pc' := 56) hκ 4 rfl dX10_climb_54 rfl ?_
    refine j_aload_n (pc' := 57) hκ 0 rfl rfl dX10_climb_56 rfl ?_
    refine jg_11_9 (pc' := 60) hκ (mi inlX10) (fl_in hκ (mc wm_17_13)) dX10_climb_57 rfl ?_
    refine j_icmp_ge (tgt := 94) (pc' := 63) hκ dX10_climb_60 (by decide) rfl (fun c => ?_) (fun c => ?_)
    · replace h := h.1 c
      refine j_sub [0, 1, 2, 3] rfl ?_
      exact hK94 _ _ _ _  h
    · replace h := h.2 c
      refine j_aload_n (pc' := 64) hκ 0 rfl rfl dX10_climb_63 rfl ?_
      refine jg_11_14 (pc' := 67) hκ (mi inlX10) (fl_in hκ (mc wm_7_22)) dX10_climb_64 rfl ?_
      refine j_iload (pc' := 69) hκ 4 rfl dX10_climb_67 rfl ?_
      refine j_dup2 (pc' := 70) hκ rfl rfl dX10_climb_69 rfl ?_
      refine jm_iald (pc' := 71) hκ (ah_59 g) h.1 dX10_climb_70 rfl ?_
      replace h := h.2
      refine j_aload_n (pc' := 72) hκ 0 rfl rfl dX10_climb_71 rfl ?_
      refine jg_11_13 (pc' := 75) hκ (mi inlX10) (fl_in hκ (mc wm_7_21)) dX10_climb_72 rfl ?_
      refine j_iload (pc' := 77) hκ 4 rfl dX10_climb_75 rfl ?_
      refine jm_zald (pc' := 78) hκ (ah_58 g) h.1 dX10_climb_77 rfl ?_
      replace h := h.2
      refine j_if_eq (tgt := 85) (pc' := 81) hκ dX10_climb_78 (by decide) rfl (fun c => ?_) (fun c => ?_)
      · replace h := h.1 c
        refine j_iconst (pc' := 86) (v := 2) hκ (by decide) dX10_climb_85 rfl ?_
        refine j_isub (pc' := 87) hκ dX10_climb_86 rfl ?_
        refine jm_iast (pc' := 88) hκ (ah_59 g) h.1 dX10_climb_87 rfl ?_
        replace h := h.2
        refine j_nmM (fun M7 eM7 => ?_)
        replace h := h M7 eM7
        refine j_iinc (pc' := 91) (v := l4 + 1) (lv' := [(4, .int (l4 + 1)), (0, .ref (g.2.1 11)), (1, .int l1), (2, .int l2), (3, .int l3)]) hκ 4 rfl rfl (Nat.le_of_ble_eq_true rfl) rfl dX10_climb_88 rfl ?_
        refine j_goto (pc' := 54) hκ (by decide) dX10_climb_91 ?_
        refine j_sub [1, 2, 3, 4, 0] rfl ?_
        exact ih _ _ _ _ _  h
      · replace h := h.2 c
        refine j_iconst (pc' := 82) (v := 0) hκ (by decide) dX10_climb_81 rfl ?_
        refine j_goto (pc' := 86) hκ (by decide) dX10_climb_82 ?_
        refine j_isub (pc' := 87) hκ dX10_climb_86 rfl ?_
        refine jm_iast (pc' := 88) hκ (ah_59 g) h.1 dX10_climb_87 rfl ?_
        replace h := h.2
        refine j_nmM (fun M8 eM8 => ?_)
        replace h := h M8 eM8
        refine j_iinc (pc' := 91) (v := l4 + 1) (lv' := [(4, .int (l4 + 1)), (0, .ref (g.2.1 11)), (1, .int l1), (2, .int l2), (3, .int l3)]) hκ 4 rfl rfl (Nat.le_of_ble_eq_true rfl) rfl dX10_climb_88 rfl ?_
        refine j_goto (pc' := 54) hκ (by decide) dX10_climb_91 ?_
        refine j_sub [1, 2, 3, 4, 0] rfl ?_
        exact ih _ _ _ _ _  h
def wp_m_climb_97_s (K150 : ST → Int32 → Int32 → Int32 → Prop) (post : Int32 → ST → Prop) (rec : ST → Int32 → Int32 → Int32 → Int32 → Prop) (M : ST) (l1 : Int32) (l2 : Int32) (l3 : Int32) (l4 : Int32) : Prop :=
  ((m_taken M) ≤ l4 → (K150 M l1 l2 l3)) ∧ (¬ (m_taken M) ≤ l4 → (vp_in l4 24 ∧ (vp_in ((m_takenPair M l4.toNatClampNeg) / 12) 12 ∧ (vp_in ((m_takenPair M l4.toNatClampNeg) / 12) 12 ∧ (∀ M13 : ST, M13 = ms_price M (upd (m_price M) ((m_takenPair M l4.toNatClampNeg) / 12).toNatClampNeg ((m_price M ((m_takenPair M l4.toNatClampNeg) / 12).toNatClampNeg) + 1)) → vp_in l4 24 ∧ (vp_in ((m_takenPair M13 l4.toNatClampNeg) - (m_takenPair M13 l4.toNatClampNeg) / 12 * 12) 12 ∧ (vp_in ((m_takenPair M13 l4.toNatClampNeg) - (m_takenPair M13 l4.toNatClampNeg) / 12 * 12) 12 ∧ (∀ M14 : ST, M14 = ms_price M13 (upd (m_price M13) ((m_takenPair M13 l4.toNatClampNeg) - (m_takenPair M13 l4.toNatClampNeg) / 12 * 12).toNatClampNeg ((m_price M13 ((m_takenPair M13 l4.toNatClampNeg) - (m_takenPair M13 l4.toNatClampNeg) / 12 * 12).toNatClampNeg) + 1)) → rec M14 l1 l2 l3 (l4 + 1)))))))))
def wp_m_climb_97 (K150 : ST → Int32 → Int32 → Int32 → Prop) (post : Int32 → ST → Prop) : Nat → ST → Int32 → Int32 → Int32 → Int32 → Prop
  | 0 => fun _ _ _ _ _ => False
  | n + 1 => wp_m_climb_97_s K150 post (wp_m_climb_97 K150 post n)
set_option maxHeartbeats 4000000 in
set_option maxRecDepth 100000 in
theorem lb_m_climb_97 {κ : Cx} {g : Gx} {X : ST} (hκ : CF κ g RX10 cX10_climb wq_X10_climb 5 rm_m_climb) {post : Int32 → ST → Prop} (hR : RtmI κ g 5 cX10_climb X post) {K150 : ST → Int32 → Int32 → Int32 → Prop} (hK150 : ∀ (M : ST) (l1 : Int32) (l2 : Int32) (l3 : Int32), K150 M l1 l2 l3 → Jw κ g 5 X M [(0, .ref (g.2.1 11)), (1, .int l1), (2, .int l2), (3, .int l3)] 150 []) : ∀ (n : Nat) (M : ST) (l1 : Int32) (l2 : Int32) (l3 : Int32) (l4 : Int32), wp_m_climb_97 K150 post n M l1 l2 l3 l4 → Jw κ g 5 X M [(0, .ref (g.2.1 11)), (1, .int l1), (2, .int l2), (3, .int l3), (4, .int l4)] 97 [] := by
  intro n
  induction n with
  | zero =>
    intro M l1 l2 l3 l4  h
    exact h.elim
  | succ n ih =>
    intro M l1 l2 l3 l4  h
    have h : wp_m_climb_97_s K150 post (wp_m_climb_97 K150 post n) M l1 l2 l3 l4 := h
    unfold wp_m_climb_97_s at h
    refine j_iload (pc' := 99) hκ 4 rfl dX10_climb_97 rfl ?_
    refine j_aload_n (pc' := 100) hκ 0 rfl rfl dX10_climb_99 rfl ?_
    refine jg_11_27 (pc' := 103) hκ (mi inlX10) (fl_in hκ (mc wm_36_1)) dX10_climb_100 rfl ?_
    refine j_icmp_ge (tgt := 150) (pc' := 106) hκ dX10_climb_103 (by decide) rfl (fun c => ?_) (fun c => ?_)
    · replace h := h.1 c
      refine j_sub [0, 1, 2, 3] rfl ?_
      exact hK150 _ _ _ _  h
    · replace h := h.2 c
      refine j_aload_n (pc' := 107) hκ 0 rfl rfl dX10_climb_106 rfl ?_
      refine jg_11_14 (pc' := 110) hκ (mi inlX10) (fl_in hκ (mc wm_7_22)) dX10_climb_107 rfl ?_
      refine j_aload_n (pc' := 111) hκ 0 rfl rfl dX10_climb_110 rfl ?_
      refine jg_11_26 (pc' := 114) hκ (mi inlX10) (fl_in hκ (mc wm_8_8)) dX10_climb_111 rfl ?_
      refine j_iload (pc' := 116) hκ 4 rfl dX10_climb_114 rfl ?_
      refine jm_iald (pc' := 117) hκ (ah_69 g) h.1 dX10_climb_116 rfl ?_
      replace h := h.2
      refine j_bipush (pc' := 119) (v := 12) hκ (by decide) dX10_climb_117 rfl ?_
      refine j_idiv (pc' := 120) hκ (by decide) dX10_climb_119 rfl ?_
      refine j_dup2 (pc' := 121) hκ rfl rfl dX10_climb_120 rfl ?_
      refine jm_iald (pc' := 122) hκ (ah_59 g) h.1 dX10_climb_121 rfl ?_
      replace h := h.2
      refine j_iconst (pc' := 123) (v := 1) hκ (by decide) dX10_climb_122 rfl ?_
      refine j_iadd (pc' := 124) hκ dX10_climb_123 rfl ?_
      refine jm_iast (pc' := 125) hκ (ah_59 g) h.1 dX10_climb_124 rfl ?_
      replace h := h.2
      refine j_nmM (fun M13 eM13 => ?_)
      replace h := h M13 eM13
      refine j_aload_n (pc' := 126) hκ 0 rfl rfl dX10_climb_125 rfl ?_
      refine jg_11_14 (pc' := 129) hκ (mi inlX10) (fl_in hκ (mc wm_7_22)) dX10_climb_126 rfl ?_
      refine j_aload_n (pc' := 130) hκ 0 rfl rfl dX10_climb_129 rfl ?_
      refine jg_11_26 (pc' := 133) hκ (mi inlX10) (fl_in hκ (mc wm_8_8)) dX10_climb_130 rfl ?_
      refine j_iload (pc' := 135) hκ 4 rfl dX10_climb_133 rfl ?_
      refine jm_iald (pc' := 136) hκ (ah_69 g) h.1 dX10_climb_135 rfl ?_
      replace h := h.2
      refine j_bipush (pc' := 138) (v := 12) hκ (by decide) dX10_climb_136 rfl ?_
      refine j_irem (pc' := 139) hκ (by decide) dX10_climb_138 rfl ?_
      refine j_dup2 (pc' := 140) hκ rfl rfl dX10_climb_139 rfl ?_
      refine jm_iald (pc' := 141) hκ (ah_59 g) h.1 dX10_climb_140 rfl ?_
      replace h := h.2
      refine j_iconst (pc' := 142) (v := 1) hκ (by decide) dX10_climb_141 rfl ?_
      refine j_iadd (pc' := 143) hκ dX10_climb_142 rfl ?_
      refine jm_iast (pc' := 144) hκ (ah_59 g) h.1 dX10_climb_143 rfl ?_
      replace h := h.2
      refine j_nmM (fun M14 eM14 => ?_)
      replace h := h M14 eM14
      refine j_iinc (pc' := 147) (v := l4 + 1) (lv' := [(4, .int (l4 + 1)), (0, .ref (g.2.1 11)), (1, .int l1), (2, .int l2), (3, .int l3)]) hκ 4 rfl rfl (Nat.le_of_ble_eq_true rfl) rfl dX10_climb_144 rfl ?_
      refine j_goto (pc' := 97) hκ (by decide) dX10_climb_147 ?_
      refine j_sub [1, 2, 3, 4, 0] rfl ?_
      exact ih _ _ _ _ _  h
def wp_m_climb_32_s (K156 : ST → Int32 → Prop) (post : Int32 → ST → Prop) (rec : ST → Int32 → Int32 → Int32 → Prop) (M : ST) (l1 : Int32) (l2 : Int32) (l3 : Int32) : Prop :=
  (l1 ≤ l3 → (K156 M l2)) ∧ (¬ l1 ≤ l3 → (wp_m_tree M (fun r6 M5 => (r6 = 4611686018427387904 → (rec M5 l1 l2 (l3 + 1))) ∧ (¬ r6 = 4611686018427387904 → (∃ n, wp_m_climb_54 (fun M9 v10 v11 v12 => ∃ n, wp_m_climb_97 (fun M15 v16 v17 v18 => rec M15 v16 v17 (v18 + 1)) post n M9 v10 v11 v12 0) post n M5 l1 (l2 + 1) l3 0)))))
def wp_m_climb_32 (K156 : ST → Int32 → Prop) (post : Int32 → ST → Prop) : Nat → ST → Int32 → Int32 → Int32 → Prop
  | 0 => fun _ _ _ _ => False
  | n + 1 => wp_m_climb_32_s K156 post (wp_m_climb_32 K156 post n)
set_option maxHeartbeats 4000000 in
set_option maxRecDepth 100000 in
theorem lb_m_climb_32 {κ : Cx} {g : Gx} {X : ST} (hκ : CF κ g RX10 cX10_climb wq_X10_climb 5 rm_m_climb) {post : Int32 → ST → Prop} (hR : RtmI κ g 5 cX10_climb X post) {K156 : ST → Int32 → Prop} (hK156 : ∀ (M : ST) (l2 : Int32), K156 M l2 → Jw κ g 5 X M [(2, .int l2)] 156 []) : ∀ (n : Nat) (M : ST) (l1 : Int32) (l2 : Int32) (l3 : Int32), wp_m_climb_32 K156 post n M l1 l2 l3 → Jw κ g 5 X M [(0, .ref (g.2.1 11)), (1, .int l1), (2, .int l2), (3, .int l3)] 32 [] := by
  intro n
  induction n with
  | zero =>
    intro M l1 l2 l3  h
    exact h.elim
  | succ n ih =>
    intro M l1 l2 l3  h
    have h : wp_m_climb_32_s K156 post (wp_m_climb_32 K156 post n) M l1 l2 l3 := h
    unfold wp_m_climb_32_s at h
    refine j_iload_n (pc' := 33) hκ 3 rfl rfl dX10_climb_32 rfl ?_
    refine j_iload_n (pc' := 34) hκ 1 rfl rfl dX10_climb_33 rfl ?_
    refine j_icmp_ge (tgt := 156) (pc' := 37) hκ dX10_climb_34 (by decide) rfl (fun c => ?_) (fun c => ?_)
    · replace h := h.1 c
      refine j_sub [2] rfl ?_
      exact hK156 _ _  h
    · replace h := h.2 c
      refine j_aload_n (pc' := 38) hκ 0 rfl rfl dX10_climb_37 rfl ?_
      refine jm_callVl (pc' := 41) hκ (c_m_tree (dg hκ) h) rfl rfl rfl (gV wm_36_6 wm_36_7 wm_36_8 wm_1_5 wm_36_9) hqV_X10_tree ⟨Nat.le_of_ble_eq_true rfl, Nat.le_of_ble_eq_true rfl⟩ (wg_11 g _ _) rfl rfl rfl (Nat.le_of_ble_eq_true rfl) dX10_climb_38 rfl (fun r6 M5 h => ?_)
      refine j_ldc2_w (pc' := 44) hκ (mc wm_36_0) dX10_climb_41 rfl ?_
      refine j_lc_eq (tgt := 150) (pc1 := 45) (pc' := 48) hκ dX10_climb_44 rfl dX10_climb_45 (by decide) rfl (fun c => ?_) (fun c => ?_)
      · replace h := h.1 c
        refine j_iinc (pc' := 153) (v := l3 + 1) (lv' := [(3, .int (l3 + 1)), (0, .ref (g.2.1 11)), (1, .int l1), (2, .int l2)]) hκ 3 rfl rfl (Nat.le_of_ble_eq_true rfl) rfl dX10_climb_150 rfl ?_
        refine j_goto (pc' := 32) hκ (by decide) dX10_climb_153 ?_
        refine j_sub [1, 2, 3, 0] rfl ?_
        exact ih _ _ _ _  h
      · replace h := h.2 c
        refine j_iinc (pc' := 51) (v := l2 + 1) (lv' := [(2, .int (l2 + 1)), (0, .ref (g.2.1 11)), (1, .int l1), (3, .int l3)]) hκ 2 rfl rfl (Nat.le_of_ble_eq_true rfl) rfl dX10_climb_48 rfl ?_
        refine j_iconst (pc' := 52) (v := 0) hκ (by decide) dX10_climb_51 rfl ?_
        refine j_istore (pc' := 54) (lv' := [(4, .int 0), (2, .int (l2 + 1)), (0, .ref (g.2.1 11)), (1, .int l1), (3, .int l3)]) hκ (Nat.le_of_ble_eq_true rfl) rfl dX10_climb_52 rfl ?_
        obtain ⟨n, h⟩ := h
        refine j_sub [2, 3, 1, 4, 0] rfl ?_
        refine lb_m_climb_54 hκ hR ?_ n _ _ _ _ _  h
        intro M9 v10 v11 v12  h
        refine j_iconst (pc' := 95) (v := 0) hκ (by decide) dX10_climb_94 rfl ?_
        refine j_istore (pc' := 97) (lv' := [(4, .int 0), (0, .ref (g.2.1 11)), (1, .int v10), (2, .int v11), (3, .int v12)]) hκ (Nat.le_of_ble_eq_true rfl) rfl dX10_climb_95 rfl ?_
        obtain ⟨n, h⟩ := h
        refine j_sub [1, 2, 3, 4, 0] rfl ?_
        refine lb_m_climb_97 hκ hR ?_ n _ _ _ _ _  h
        intro M15 v16 v17 v18  h
        refine j_iinc (pc' := 153) (v := v18 + 1) (lv' := [(3, .int (v18 + 1)), (0, .ref (g.2.1 11)), (1, .int v16), (2, .int v17)]) hκ 3 rfl rfl (Nat.le_of_ble_eq_true rfl) rfl dX10_climb_150 rfl ?_
        refine j_goto (pc' := 32) hκ (by decide) dX10_climb_153 ?_
        refine j_sub [1, 2, 3, 0] rfl ?_
        exact ih _ _ _ _  h
def wp_m_climb (M : ST) (p1 : Int32) (post : Int32 → ST → Prop) : Prop :=
  (p1 < 1 → (post (-1) M)) ∧ (¬ p1 < 1 → ((p1 ≤ 100 → (wp_m_lit M (fun r2 M1 => (3 ≤ r2 → (wp_m_freeAll M1 (fun M3 => ∃ n, wp_m_climb_32 (fun M19 v20 => post v20 M19) post n M3 p1 0 0))) ∧ (¬ 3 ≤ r2 → (post (-4) M1))))) ∧ (¬ p1 ≤ 100 → (post (-1) M))))
set_option maxHeartbeats 4000000 in
set_option maxRecDepth 100000 in
theorem lb_m_climb {κ : Cx} {g : Gx} {X : ST} (hκ : CF κ g RX10 cX10_climb wq_X10_climb 5 rm_m_climb) {post : Int32 → ST → Prop} (hR : RtmI κ g 5 cX10_climb X post) {M : ST} {p1 : Int32} (h : wp_m_climb M p1 post) : Jw κ g 5 X M [(0, .ref (g.2.1 11)), (1, .int p1)] 0 [] := by
  unfold wp_m_climb at h
  refine j_iload_n (pc' := 1) hκ 1 rfl rfl dX10_climb_0 rfl ?_
  refine j_iconst (pc' := 2) (v := 1) hκ (by decide) dX10_climb_1 rfl ?_
  refine j_icmp_lt (tgt := 11) (pc' := 5) hκ dX10_climb_2 (by decide) rfl (fun c => ?_) (fun c => ?_)
  · replace h := h.1 c
    refine j_iconst (pc' := 12) (v := (-1)) hκ (by decide) dX10_climb_11 rfl ?_
    exact hR _ _ _ _ dX10_climb_12 h
  · replace h := h.2 c
    refine j_iload_n (pc' := 6) hκ 1 rfl rfl dX10_climb_5 rfl ?_
    refine j_bipush (pc' := 8) (v := 100) hκ (by decide) dX10_climb_6 rfl ?_
    refine j_icmp_le (tgt := 13) (pc' := 11) hκ dX10_climb_8 (by decide) rfl (fun c => ?_) (fun c => ?_)
    · replace h := h.1 c
      refine j_aload_n (pc' := 14) hκ 0 rfl rfl dX10_climb_13 rfl ?_
      refine jm_callVi (pc' := 17) hκ (c_m_lit (dg hκ) h) rfl rfl rfl (gV wm_21_16 wm_21_17 wm_21_18 wm_1_5 wm_21_19) hqV_X10_lit ⟨Nat.le_of_ble_eq_true rfl, Nat.le_of_ble_eq_true rfl⟩ (wg_11 g _ _) rfl rfl rfl (Nat.le_of_ble_eq_true rfl) dX10_climb_14 rfl (fun r2 M1 h => ?_)
      refine j_iconst (pc' := 18) (v := 3) hκ (by decide) dX10_climb_17 rfl ?_
      refine j_icmp_ge (tgt := 24) (pc' := 21) hκ dX10_climb_18 (by decide) rfl (fun c => ?_) (fun c => ?_)
      · replace h := h.1 c
        refine j_iconst (pc' := 25) (v := 0) hκ (by decide) dX10_climb_24 rfl ?_
        refine j_istore_n (pc' := 26) (lv' := [(2, .int 0), (0, .ref (g.2.1 11)), (1, .int p1)]) hκ (Nat.le_of_ble_eq_true rfl) rfl rfl dX10_climb_25 rfl ?_
        refine j_aload_n (pc' := 27) hκ 1 rfl rfl dX10_climb_26 rfl ?_
        refine jm_callVv (pc' := 30) hκ (c_m_freeAll (dg hκ) h) rfl rfl rfl (gV wm_36_2 wm_36_3 wm_36_4 wm_1_5 wm_36_5) hqV_X10_freeAll ⟨Nat.le_of_ble_eq_true rfl, Nat.le_of_ble_eq_true rfl⟩ (wg_11 g _ _) rfl rfl rfl (Nat.le_of_ble_eq_true rfl) dX10_climb_27 rfl (fun M3 h => ?_)
        refine j_iconst (pc' := 31) (v := 0) hκ (by decide) dX10_climb_30 rfl ?_
        refine j_istore_n (pc' := 32) (lv' := [(3, .int 0), (2, .int 0), (0, .ref (g.2.1 11)), (1, .int p1)]) hκ (Nat.le_of_ble_eq_true rfl) rfl rfl dX10_climb_31 rfl ?_
        obtain ⟨n, h⟩ := h
        refine j_sub [2, 3, 1, 0] rfl ?_
        refine lb_m_climb_32 hκ hR ?_ n _ _ _ _  h
        intro M19 v20  h
        refine j_iload_n (pc' := 157) hκ 0 rfl rfl dX10_climb_156 rfl ?_
        exact hR _ _ _ _ dX10_climb_157 h
      · replace h := h.2 c
        refine j_bipush (pc' := 23) (v := (-4)) hκ (by decide) dX10_climb_21 rfl ?_
        exact hR _ _ _ _ dX10_climb_23 h
    · replace h := h.2 c
      refine j_iconst (pc' := 12) (v := (-1)) hκ (by decide) dX10_climb_11 rfl ?_
      exact hR _ _ _ _ dX10_climb_12 h
theorem c_m_climb {g : Gx} (hg : Dg g) {X M : ST} {p1 : Int32} {post : Int32 → ST → Prop} (h : wp_m_climb M p1 post) (l : Launch) : Met l yX10_climb wq_X10_climb rm_m_climb (va_Pc [.ref (g.2.1 11), .int p1] (PU g X M)) (va_Qi post (fun Y t => va_P g.1 vwCl (ww g X Y) t.heap) (wA g)) 0 0 (wA g) :=
  met_mi hg (by decide) rfl [.ref (g.2.1 11), .int p1] rfl (Nat.le_of_ble_eq_true rfl) (fun κ hκ hR => lb_m_climb hκ hR h) l
theorem wm_38_0 : Cond.constantLong RX10 238 (-4611686018427387904) ∈ wAll := inr_38 (List.mem_of_getElem? (i := 0) rfl)
abbrev rm_m_bound : Room := { frames := 5, cells := 0, slots := 0, locals := 120 }
def wp_m_bound (M : ST) (post : Int64 → ST → Prop) : Prop :=
  wp_m_lit M (fun r2 M1 => (3 ≤ r2 → (wp_m_freeAll M1 (fun M3 => wp_m_tree M3 (fun r6 M5 => post r6 M5)))) ∧ (¬ 3 ≤ r2 → (post (-4611686018427387904) M1)))
set_option maxHeartbeats 4000000 in
set_option maxRecDepth 100000 in
theorem lb_m_bound {κ : Cx} {g : Gx} {X : ST} (hκ : CF κ g RX10 cX10_bound wq_X10_bound 1 rm_m_bound) {post : Int64 → ST → Prop} (hR : RtmL κ g 1 cX10_bound X post) {M : ST} (h : wp_m_bound M post) : Jw κ g 1 X M [(0, .ref (g.2.1 11))] 0 [] := by
  unfold wp_m_bound at h
  refine j_aload_n (pc' := 1) hκ 0 rfl rfl dX10_bound_0 rfl ?_
  refine jm_callVi (pc' := 4) hκ (c_m_lit (dg hκ) h) rfl rfl rfl (gV wm_21_16 wm_21_17 wm_21_18 wm_1_5 wm_21_19) hqV_X10_lit ⟨Nat.le_of_ble_eq_true rfl, Nat.le_of_ble_eq_true rfl⟩ (wg_11 g _ _) rfl rfl rfl (Nat.le_of_ble_eq_true rfl) dX10_bound_1 rfl (fun r2 M1 h => ?_)
  refine j_iconst (pc' := 5) (v := 3) hκ (by decide) dX10_bound_4 rfl ?_
  refine j_icmp_ge (tgt := 12) (pc' := 8) hκ dX10_bound_5 (by decide) rfl (fun c => ?_) (fun c => ?_)
  · replace h := h.1 c
    refine j_aload_n (pc' := 13) hκ 0 rfl rfl dX10_bound_12 rfl ?_
    refine jm_callVv (pc' := 16) hκ (c_m_freeAll (dg hκ) h) rfl rfl rfl (gV wm_36_2 wm_36_3 wm_36_4 wm_1_5 wm_36_5) hqV_X10_freeAll ⟨Nat.le_of_ble_eq_true rfl, Nat.le_of_ble_eq_true rfl⟩ (wg_11 g _ _) rfl rfl rfl (Nat.le_of_ble_eq_true rfl) dX10_bound_13 rfl (fun M3 h => ?_)
    refine j_aload_n (pc' := 17) hκ 0 rfl rfl dX10_bound_16 rfl ?_
    refine jm_callVl (pc' := 20) hκ (c_m_tree (dg hκ) h) rfl rfl rfl (gV wm_36_6 wm_36_7 wm_36_8 wm_1_5 wm_36_9) hqV_X10_tree ⟨Nat.le_of_ble_eq_true rfl, Nat.le_of_ble_eq_true rfl⟩ (wg_11 g _ _) rfl rfl rfl (Nat.le_of_ble_eq_true rfl) dX10_bound_17 rfl (fun r6 M5 h => ?_)
    exact hR _ _ _ _ dX10_bound_20 h
  · replace h := h.2 c
    refine j_ldc2_w (pc' := 11) hκ (mc wm_38_0) dX10_bound_8 rfl ?_
    exact hR _ _ _ _ dX10_bound_11 h
theorem c_m_bound {g : Gx} (hg : Dg g) {X M : ST} {post : Int64 → ST → Prop} (h : wp_m_bound M post) (l : Launch) : Met l yX10_bound wq_X10_bound rm_m_bound (va_Pc [.ref (g.2.1 11)] (PU g X M)) (va_Ql post (fun Y t => va_P g.1 vwCl (ww g X Y) t.heap) (wA g)) 0 0 (wA g) :=
  met_ml hg (by decide) rfl [.ref (g.2.1 11)] rfl (Nat.le_of_ble_eq_true rfl) (fun κ hκ hR => lb_m_bound hκ hR h) l
abbrev rm_m_taken : Room := { frames := 5, cells := 0, slots := 0, locals := 120 }
def wp_m_taken (M : ST) (p1 : Int32) (post : Int32 → ST → Prop) : Prop :=
  wp_m_lit M (fun r2 M1 => (3 ≤ r2 → (wp_m_freeAll M1 (fun M3 => wp_m_tree M3 (fun r6 M5 => (p1 < 0 → (post (-1) M5)) ∧ (¬ p1 < 0 → ((p1 < (m_taken M5) → (vp_in p1 24 ∧ (vp_in p1 24 ∧ (post ((16 * ((m_takenPair M5 p1.toNatClampNeg) / 12)) + ((m_takenPair M5 p1.toNatClampNeg) - (m_takenPair M5 p1.toNatClampNeg) / 12 * 12)) M5)))) ∧ (¬ p1 < (m_taken M5) → (post (-1) M5)))))))) ∧ (¬ 3 ≤ r2 → (post (-1) M1)))
set_option maxHeartbeats 4000000 in
set_option maxRecDepth 100000 in
theorem lb_m_taken {κ : Cx} {g : Gx} {X : ST} (hκ : CF κ g RX10 cX10_taken wq_X10_taken 4 rm_m_taken) {post : Int32 → ST → Prop} (hR : RtmI κ g 4 cX10_taken X post) {M : ST} {p1 : Int32} (h : wp_m_taken M p1 post) : Jw κ g 4 X M [(0, .ref (g.2.1 11)), (1, .int p1)] 0 [] := by
  unfold wp_m_taken at h
  refine j_aload_n (pc' := 1) hκ 0 rfl rfl dX10_taken_0 rfl ?_
  refine jm_callVi (pc' := 4) hκ (c_m_lit (dg hκ) h) rfl rfl rfl (gV wm_21_16 wm_21_17 wm_21_18 wm_1_5 wm_21_19) hqV_X10_lit ⟨Nat.le_of_ble_eq_true rfl, Nat.le_of_ble_eq_true rfl⟩ (wg_11 g _ _) rfl rfl rfl (Nat.le_of_ble_eq_true rfl) dX10_taken_1 rfl (fun r2 M1 h => ?_)
  refine j_iconst (pc' := 5) (v := 3) hκ (by decide) dX10_taken_4 rfl ?_
  refine j_icmp_ge (tgt := 10) (pc' := 8) hκ dX10_taken_5 (by decide) rfl (fun c => ?_) (fun c => ?_)
  · replace h := h.1 c
    refine j_aload_n (pc' := 11) hκ 0 rfl rfl dX10_taken_10 rfl ?_
    refine jm_callVv (pc' := 14) hκ (c_m_freeAll (dg hκ) h) rfl rfl rfl (gV wm_36_2 wm_36_3 wm_36_4 wm_1_5 wm_36_5) hqV_X10_freeAll ⟨Nat.le_of_ble_eq_true rfl, Nat.le_of_ble_eq_true rfl⟩ (wg_11 g _ _) rfl rfl rfl (Nat.le_of_ble_eq_true rfl) dX10_taken_11 rfl (fun M3 h => ?_)
    refine j_aload_n (pc' := 15) hκ 0 rfl rfl dX10_taken_14 rfl ?_
    refine jm_callVl (pc' := 18) hκ (c_m_tree (dg hκ) h) rfl rfl rfl (gV wm_36_6 wm_36_7 wm_36_8 wm_1_5 wm_36_9) hqV_X10_tree ⟨Nat.le_of_ble_eq_true rfl, Nat.le_of_ble_eq_true rfl⟩ (wg_11 g _ _) rfl rfl rfl (Nat.le_of_ble_eq_true rfl) dX10_taken_15 rfl (fun r6 M5 h => ?_)
    refine j_lstore_n (pc' := 19) (lv' := [(2, .long r6), (0, .ref (g.2.1 11)), (1, .int p1)]) hκ (Nat.le_of_ble_eq_true rfl) rfl rfl dX10_taken_18 rfl ?_
    refine j_iload_n (pc' := 20) hκ 2 rfl rfl dX10_taken_19 rfl ?_
    refine j_if_lt (tgt := 31) (pc' := 23) hκ dX10_taken_20 (by decide) rfl (fun c => ?_) (fun c => ?_)
    · replace h := h.1 c
      refine j_iconst (pc' := 32) (v := (-1)) hκ (by decide) dX10_taken_31 rfl ?_
      refine j_goto (pc' := 57) hκ (by decide) dX10_taken_32 ?_
      exact hR _ _ _ _ dX10_taken_57 h
    · replace h := h.2 c
      refine j_iload_n (pc' := 24) hκ 2 rfl rfl dX10_taken_23 rfl ?_
      refine j_aload_n (pc' := 25) hκ 1 rfl rfl dX10_taken_24 rfl ?_
      refine jg_11_27 (pc' := 28) hκ (mi inlX10) (fl_in hκ (mc wm_36_1)) dX10_taken_25 rfl ?_
      refine j_icmp_lt (tgt := 35) (pc' := 31) hκ dX10_taken_28 (by decide) rfl (fun c => ?_) (fun c => ?_)
      · replace h := h.1 c
        refine j_bipush (pc' := 37) (v := 16) hκ (by decide) dX10_taken_35 rfl ?_
        refine j_aload_n (pc' := 38) hκ 1 rfl rfl dX10_taken_37 rfl ?_
        refine jg_11_26 (pc' := 41) hκ (mi inlX10) (fl_in hκ (mc wm_8_8)) dX10_taken_38 rfl ?_
        refine j_iload_n (pc' := 42) hκ 2 rfl rfl dX10_taken_41 rfl ?_
        refine jm_iald (pc' := 43) hκ (ah_69 g) h.1 dX10_taken_42 rfl ?_
        replace h := h.2
        refine j_bipush (pc' := 45) (v := 12) hκ (by decide) dX10_taken_43 rfl ?_
        refine j_idiv (pc' := 46) hκ (by decide) dX10_taken_45 rfl ?_
        refine j_imul (pc' := 47) hκ dX10_taken_46 rfl ?_
        refine j_aload_n (pc' := 48) hκ 1 rfl rfl dX10_taken_47 rfl ?_
        refine jg_11_26 (pc' := 51) hκ (mi inlX10) (fl_in hκ (mc wm_8_8)) dX10_taken_48 rfl ?_
        refine j_iload_n (pc' := 52) hκ 2 rfl rfl dX10_taken_51 rfl ?_
        refine jm_iald (pc' := 53) hκ (ah_69 g) h.1 dX10_taken_52 rfl ?_
        replace h := h.2
        refine j_bipush (pc' := 55) (v := 12) hκ (by decide) dX10_taken_53 rfl ?_
        refine j_irem (pc' := 56) hκ (by decide) dX10_taken_55 rfl ?_
        refine j_iadd (pc' := 57) hκ dX10_taken_56 rfl ?_
        exact hR _ _ _ _ dX10_taken_57 h
      · replace h := h.2 c
        refine j_iconst (pc' := 32) (v := (-1)) hκ (by decide) dX10_taken_31 rfl ?_
        refine j_goto (pc' := 57) hκ (by decide) dX10_taken_32 ?_
        exact hR _ _ _ _ dX10_taken_57 h
  · replace h := h.2 c
    refine j_iconst (pc' := 9) (v := (-1)) hκ (by decide) dX10_taken_8 rfl ?_
    exact hR _ _ _ _ dX10_taken_9 h
theorem c_m_taken {g : Gx} (hg : Dg g) {X M : ST} {p1 : Int32} {post : Int32 → ST → Prop} (h : wp_m_taken M p1 post) (l : Launch) : Met l yX10_taken wq_X10_taken rm_m_taken (va_Pc [.ref (g.2.1 11), .int p1] (PU g X M)) (va_Qi post (fun Y t => va_P g.1 vwCl (ww g X Y) t.heap) (wA g)) 0 0 (wA g) :=
  met_mi hg (by decide) rfl [.ref (g.2.1 11), .int p1] rfl (Nat.le_of_ble_eq_true rfl) (fun κ hκ hR => lb_m_taken hκ hR h) l
theorem wm_41_23 : Cond.fieldLink RX10 267 "LampRoundModel" "news" "I" ∈ wAll := inr_41 (List.mem_of_getElem? (i := 23) rfl)
theorem wm_42_0 : Cond.fieldLink RX10 240 "LampRoundModel" "waits" "I" ∈ wAll := inr_42 (List.mem_of_getElem? (i := 0) rfl)
theorem wm_8_10 : Cond.fieldLink RX10 84 "LampRoundModel" "waiting" "[I" ∈ wAll := inr_8 (List.mem_of_getElem? (i := 10) rfl)
abbrev rm_m_pushCase : Room := { frames := 0, cells := 0, slots := 0, locals := 0 }
def wp_m_pushCase_2_s (K36 : ST → Prop) (post : ST → Prop) (rec : ST → Int32 → Prop) (M : ST) (l1 : Int32) : Prop :=
  (144 ≤ l1 → (K36 M)) ∧ (¬ 144 ≤ l1 → (vp_in l1 144 ∧ (vp_in ((144 * (m_waits M)) + l1) 11520 ∧ (∀ M1 : ST, M1 = ms_waiting M (upd (m_waiting M) ((144 * (m_waits M)) + l1).toNatClampNeg (m_pairs M l1.toNatClampNeg)) → rec M1 (l1 + 1)))))
def wp_m_pushCase_2 (K36 : ST → Prop) (post : ST → Prop) : Nat → ST → Int32 → Prop
  | 0 => fun _ _ => False
  | n + 1 => wp_m_pushCase_2_s K36 post (wp_m_pushCase_2 K36 post n)
set_option maxHeartbeats 4000000 in
set_option maxRecDepth 100000 in
theorem lb_m_pushCase_2 {κ : Cx} {g : Gx} {X : ST} (hκ : CF κ g RX10 cX10_pushCase wq_X10_pushCase 2 rm_m_pushCase) {post : ST → Prop} (hR : RtmV κ g 2 cX10_pushCase X post) {K36 : ST → Prop} (hK36 : ∀ (M : ST), K36 M → Jw κ g 2 X M [(0, .ref (g.2.1 11))] 36 []) : ∀ (n : Nat) (M : ST) (l1 : Int32), wp_m_pushCase_2 K36 post n M l1 → Jw κ g 2 X M [(0, .ref (g.2.1 11)), (1, .int l1)] 2 [] := by
  intro n
  induction n with
  | zero =>
    intro M l1  h
    exact h.elim
  | succ n ih =>
    intro M l1  h
    have h : wp_m_pushCase_2_s K36 post (wp_m_pushCase_2 K36 post n) M l1 := h
    unfold wp_m_pushCase_2_s at h
    refine j_iload_n (pc' := 3) hκ 1 rfl rfl dX10_pushCase_2 rfl ?_
    refine j_sipush (pc' := 6) (v := 144) hκ (by decide) dX10_pushCase_3 rfl ?_
    refine j_icmp_ge (tgt := 36) (pc' := 9) hκ dX10_pushCase_6 (by decide) rfl (fun c => ?_) (fun c => ?_)
    · replace h := h.1 c
      refine j_sub [0] rfl ?_
      exact hK36 _  h
    · replace h := h.2 c
      refine j_aload_n (pc' := 10) hκ 0 rfl rfl dX10_pushCase_9 rfl ?_
      refine jg_11_29 (pc' := 13) hκ (mi inlX10) (fl_in hκ (mc wm_8_10)) dX10_pushCase_10 rfl ?_
      refine j_sipush (pc' := 16) (v := 144) hκ (by decide) dX10_pushCase_13 rfl ?_
      refine j_aload_n (pc' := 17) hκ 0 rfl rfl dX10_pushCase_16 rfl ?_
      refine jg_11_30 (pc' := 20) hκ (mi inlX10) (fl_in hκ (mc wm_42_0)) dX10_pushCase_17 rfl ?_
      refine j_imul (pc' := 21) hκ dX10_pushCase_20 rfl ?_
      refine j_iload_n (pc' := 22) hκ 1 rfl rfl dX10_pushCase_21 rfl ?_
      refine j_iadd (pc' := 23) hκ dX10_pushCase_22 rfl ?_
      refine j_aload_n (pc' := 24) hκ 0 rfl rfl dX10_pushCase_23 rfl ?_
      refine jg_11_24 (pc' := 27) hκ (mi inlX10) (fl_in hκ (mc wm_8_6)) dX10_pushCase_24 rfl ?_
      refine j_iload_n (pc' := 28) hκ 1 rfl rfl dX10_pushCase_27 rfl ?_
      refine jm_iald (pc' := 29) hκ (ah_67 g) h.1 dX10_pushCase_28 rfl ?_
      replace h := h.2
      refine jm_iast (pc' := 30) hκ (ah_71 g) h.1 dX10_pushCase_29 rfl ?_
      replace h := h.2
      refine j_nmM (fun M1 eM1 => ?_)
      replace h := h M1 eM1
      refine j_iinc (pc' := 33) (v := l1 + 1) (lv' := [(1, .int (l1 + 1)), (0, .ref (g.2.1 11))]) hκ 1 rfl rfl (Nat.le_of_ble_eq_true rfl) rfl dX10_pushCase_30 rfl ?_
      refine j_goto (pc' := 2) hκ (by decide) dX10_pushCase_33 ?_
      refine j_sub [1, 0] rfl ?_
      exact ih _ _  h
def wp_m_pushCase (M : ST) (post : ST → Prop) : Prop :=
  ∃ n, wp_m_pushCase_2 (fun M2 => ∀ M3 : ST, M3 = ms_waits M2 ((m_waits M2) + 1) → post M3) post n M 0
set_option maxHeartbeats 4000000 in
set_option maxRecDepth 100000 in
theorem lb_m_pushCase {κ : Cx} {g : Gx} {X : ST} (hκ : CF κ g RX10 cX10_pushCase wq_X10_pushCase 2 rm_m_pushCase) {post : ST → Prop} (hR : RtmV κ g 2 cX10_pushCase X post) {M : ST} (h : wp_m_pushCase M post) : Jw κ g 2 X M [(0, .ref (g.2.1 11))] 0 [] := by
  unfold wp_m_pushCase at h
  refine j_iconst (pc' := 1) (v := 0) hκ (by decide) dX10_pushCase_0 rfl ?_
  refine j_istore_n (pc' := 2) (lv' := [(1, .int 0), (0, .ref (g.2.1 11))]) hκ (Nat.le_of_ble_eq_true rfl) rfl rfl dX10_pushCase_1 rfl ?_
  obtain ⟨n, h⟩ := h
  refine j_sub [1, 0] rfl ?_
  refine lb_m_pushCase_2 hκ hR ?_ n _ _  h
  intro M2  h
  refine j_aload_n (pc' := 37) hκ 0 rfl rfl dX10_pushCase_36 rfl ?_
  refine j_dup (pc' := 38) hκ rfl dX10_pushCase_37 rfl ?_
  refine jg_11_30 (pc' := 41) hκ (mi inlX10) (fl_in hκ (mc wm_42_0)) dX10_pushCase_38 rfl ?_
  refine j_iconst (pc' := 42) (v := 1) hκ (by decide) dX10_pushCase_41 rfl ?_
  refine j_iadd (pc' := 43) hκ dX10_pushCase_42 rfl ?_
  refine jp_11_30 (pc' := 46) hκ (mi inlX10) (fl_in hκ (mc wm_42_0)) dX10_pushCase_43 rfl ?_
  refine j_nmM (fun M3 eM3 => ?_)
  replace h := h M3 eM3
  exact hR _ _ _ dX10_pushCase_46 h
theorem c_m_pushCase {g : Gx} (hg : Dg g) {X M : ST} {post : ST → Prop} (h : wp_m_pushCase M post) (l : Launch) : Met l yX10_pushCase wq_X10_pushCase rm_m_pushCase (va_Pc [.ref (g.2.1 11)] (PU g X M)) (va_Qv post (fun Y t => va_P g.1 vwCl (ww g X Y) t.heap) (wA g)) 0 0 (wA g) :=
  met_mv hg (by decide) rfl [.ref (g.2.1 11)] rfl (Nat.le_of_ble_eq_true rfl) (fun κ hκ hR => lb_m_pushCase hκ hR h) l
theorem wm_42_1 : Cond.methodLink RX10 264 yX10_pushCase ∈ wAll := inr_42 (List.mem_of_getElem? (i := 1) rfl)
theorem wm_42_2 : Cond.instanceMethod yX10_pushCase ∈ wAll := inr_42 (List.mem_of_getElem? (i := 2) rfl)
theorem wm_42_3 : Cond.selects RX10 yX10_pushCase yX10_pushCase ∈ wAll := inr_42 (List.mem_of_getElem? (i := 3) rfl)
theorem wm_42_4 : Cond.code yX10_pushCase cX10_pushCase 2 none ∈ wAll := inr_42 (List.mem_of_getElem? (i := 4) rfl)
theorem hqV_X10_pushCase : yX10_pushCase.cls = RX10 ∧ yX10_pushCase.cls ≠ "java/lang/invoke/MethodHandle" ∧ yX10_pushCase.cls ≠ "java/lang/invoke/VarHandle" ∧ (parseMethodDescriptor yX10_pushCase.desc).map (fun d => d.parameters.length) = some 0 := by decide +kernel
abbrev rm_m_popCase : Room := { frames := 0, cells := 0, slots := 0, locals := 0 }
def wp_m_popCase_12_s (K46 : ST → Prop) (post : ST → Prop) (rec : ST → Int32 → Prop) (M : ST) (l1 : Int32) : Prop :=
  (144 ≤ l1 → (K46 M)) ∧ (¬ 144 ≤ l1 → (vp_in ((144 * (m_waits M)) + l1) 11520 ∧ (vp_in l1 144 ∧ (∀ M2 : ST, M2 = ms_pairs M (upd (m_pairs M) l1.toNatClampNeg (m_waiting M ((144 * (m_waits M)) + l1).toNatClampNeg)) → rec M2 (l1 + 1)))))
def wp_m_popCase_12 (K46 : ST → Prop) (post : ST → Prop) : Nat → ST → Int32 → Prop
  | 0 => fun _ _ => False
  | n + 1 => wp_m_popCase_12_s K46 post (wp_m_popCase_12 K46 post n)
set_option maxHeartbeats 4000000 in
set_option maxRecDepth 100000 in
theorem lb_m_popCase_12 {κ : Cx} {g : Gx} {X : ST} (hκ : CF κ g RX10 cX10_popCase wq_X10_popCase 2 rm_m_popCase) {post : ST → Prop} (hR : RtmV κ g 2 cX10_popCase X post) {K46 : ST → Prop} (hK46 : ∀ (M : ST), K46 M → Jw κ g 2 X M [] 46 []) : ∀ (n : Nat) (M : ST) (l1 : Int32), wp_m_popCase_12 K46 post n M l1 → Jw κ g 2 X M [(0, .ref (g.2.1 11)), (1, .int l1)] 12 [] := by
  intro n
  induction n with
  | zero =>
    intro M l1  h
    exact h.elim
  | succ n ih =>
    intro M l1  h
    have h : wp_m_popCase_12_s K46 post (wp_m_popCase_12 K46 post n) M l1 := h
    unfold wp_m_popCase_12_s at h
    refine j_iload_n (pc' := 13) hκ 1 rfl rfl dX10_popCase_12 rfl ?_
    refine j_sipush (pc' := 16) (v := 144) hκ (by decide) dX10_popCase_13 rfl ?_
    refine j_icmp_ge (tgt := 46) (pc' := 19) hκ dX10_popCase_16 (by decide) rfl (fun c => ?_) (fun c => ?_)
    · replace h := h.1 c
      refine j_sub [] rfl ?_
      exact hK46 _  h
    · replace h := h.2 c
      refine j_aload_n (pc' := 20) hκ 0 rfl rfl dX10_popCase_19 rfl ?_
      refine jg_11_24 (pc' := 23) hκ (mi inlX10) (fl_in hκ (mc wm_8_6)) dX10_popCase_20 rfl ?_
      refine j_iload_n (pc' := 24) hκ 1 rfl rfl dX10_popCase_23 rfl ?_
      refine j_aload_n (pc' := 25) hκ 0 rfl rfl dX10_popCase_24 rfl ?_
      refine jg_11_29 (pc' := 28) hκ (mi inlX10) (fl_in hκ (mc wm_8_10)) dX10_popCase_25 rfl ?_
      refine j_sipush (pc' := 31) (v := 144) hκ (by decide) dX10_popCase_28 rfl ?_
      refine j_aload_n (pc' := 32) hκ 0 rfl rfl dX10_popCase_31 rfl ?_
      refine jg_11_30 (pc' := 35) hκ (mi inlX10) (fl_in hκ (mc wm_42_0)) dX10_popCase_32 rfl ?_
      refine j_imul (pc' := 36) hκ dX10_popCase_35 rfl ?_
      refine j_iload_n (pc' := 37) hκ 1 rfl rfl dX10_popCase_36 rfl ?_
      refine j_iadd (pc' := 38) hκ dX10_popCase_37 rfl ?_
      refine jm_iald (pc' := 39) hκ (ah_71 g) h.1 dX10_popCase_38 rfl ?_
      replace h := h.2
      refine jm_iast (pc' := 40) hκ (ah_67 g) h.1 dX10_popCase_39 rfl ?_
      replace h := h.2
      refine j_nmM (fun M2 eM2 => ?_)
      replace h := h M2 eM2
      refine j_iinc (pc' := 43) (v := l1 + 1) (lv' := [(1, .int (l1 + 1)), (0, .ref (g.2.1 11))]) hκ 1 rfl rfl (Nat.le_of_ble_eq_true rfl) rfl dX10_popCase_40 rfl ?_
      refine j_goto (pc' := 12) hκ (by decide) dX10_popCase_43 ?_
      refine j_sub [1, 0] rfl ?_
      exact ih _ _  h
def wp_m_popCase (M : ST) (post : ST → Prop) : Prop :=
  ∀ M1 : ST, M1 = ms_waits M ((m_waits M) - 1) → ∃ n, wp_m_popCase_12 (fun M3 => post M3) post n M1 0
set_option maxHeartbeats 4000000 in
set_option maxRecDepth 100000 in
theorem lb_m_popCase {κ : Cx} {g : Gx} {X : ST} (hκ : CF κ g RX10 cX10_popCase wq_X10_popCase 2 rm_m_popCase) {post : ST → Prop} (hR : RtmV κ g 2 cX10_popCase X post) {M : ST} (h : wp_m_popCase M post) : Jw κ g 2 X M [(0, .ref (g.2.1 11))] 0 [] := by
  unfold wp_m_popCase at h
  refine j_aload_n (pc' := 1) hκ 0 rfl rfl dX10_popCase_0 rfl ?_
  refine j_dup (pc' := 2) hκ rfl dX10_popCase_1 rfl ?_
  refine jg_11_30 (pc' := 5) hκ (mi inlX10) (fl_in hκ (mc wm_42_0)) dX10_popCase_2 rfl ?_
  refine j_iconst (pc' := 6) (v := 1) hκ (by decide) dX10_popCase_5 rfl ?_
  refine j_isub (pc' := 7) hκ dX10_popCase_6 rfl ?_
  refine jp_11_30 (pc' := 10) hκ (mi inlX10) (fl_in hκ (mc wm_42_0)) dX10_popCase_7 rfl ?_
  refine j_nmM (fun M1 eM1 => ?_)
  replace h := h M1 eM1
  refine j_iconst (pc' := 11) (v := 0) hκ (by decide) dX10_popCase_10 rfl ?_
  refine j_istore_n (pc' := 12) (lv' := [(1, .int 0), (0, .ref (g.2.1 11))]) hκ (Nat.le_of_ble_eq_true rfl) rfl rfl dX10_popCase_11 rfl ?_
  obtain ⟨n, h⟩ := h
  refine j_sub [1, 0] rfl ?_
  refine lb_m_popCase_12 hκ hR ?_ n _ _  h
  intro M3  h
  exact hR _ _ _ dX10_popCase_46 h
theorem c_m_popCase {g : Gx} (hg : Dg g) {X M : ST} {post : ST → Prop} (h : wp_m_popCase M post) (l : Launch) : Met l yX10_popCase wq_X10_popCase rm_m_popCase (va_Pc [.ref (g.2.1 11)] (PU g X M)) (va_Qv post (fun Y t => va_P g.1 vwCl (ww g X Y) t.heap) (wA g)) 0 0 (wA g) :=
  met_mv hg (by decide) rfl [.ref (g.2.1 11)] rfl (Nat.le_of_ble_eq_true rfl) (fun κ hκ hR => lb_m_popCase hκ hR h) l
theorem wm_42_5 : Cond.methodLink RX10 274 yX10_popCase ∈ wAll := inr_42 (List.mem_of_getElem? (i := 5) rfl)
theorem wm_42_6 : Cond.instanceMethod yX10_popCase ∈ wAll := inr_42 (List.mem_of_getElem? (i := 6) rfl)
theorem wm_42_7 : Cond.selects RX10 yX10_popCase yX10_popCase ∈ wAll := inr_42 (List.mem_of_getElem? (i := 7) rfl)
theorem wm_42_8 : Cond.code yX10_popCase cX10_popCase 2 none ∈ wAll := inr_42 (List.mem_of_getElem? (i := 8) rfl)
theorem hqV_X10_popCase : yX10_popCase.cls = RX10 ∧ yX10_popCase.cls ≠ "java/lang/invoke/MethodHandle" ∧ yX10_popCase.cls ≠ "java/lang/invoke/VarHandle" ∧ (parseMethodDescriptor yX10_popCase.desc).map (fun d => d.parameters.length) = some 0 := by decide +kernel
abbrev rm_m_pairOf : Room := { frames := 0, cells := 0, slots := 0, locals := 0 }
def wp_m_pairOf (M : ST) (p0 : Int32) (p1 : Int32) (post : Int32 → ST → Prop) : Prop :=
  (p1 ≤ p0 → (post ((12 * p1) + p0) M)) ∧ (¬ p1 ≤ p0 → (post ((12 * p0) + p1) M))
set_option maxHeartbeats 4000000 in
set_option maxRecDepth 100000 in
theorem lb_m_pairOf {κ : Cx} {g : Gx} {X : ST} (hκ : CF κ g RX10 cX10_pairOf wq_X10_pairOf 2 rm_m_pairOf) {post : Int32 → ST → Prop} (hR : RtmI κ g 2 cX10_pairOf X post) {M : ST} {p0 : Int32} {p1 : Int32} (h : wp_m_pairOf M p0 p1 post) : Jw κ g 2 X M [(0, .int p0), (1, .int p1)] 0 [] := by
  unfold wp_m_pairOf at h
  refine j_iload_n (pc' := 1) hκ 0 rfl rfl dX10_pairOf_0 rfl ?_
  refine j_iload_n (pc' := 2) hκ 1 rfl rfl dX10_pairOf_1 rfl ?_
  refine j_icmp_ge (tgt := 14) (pc' := 5) hκ dX10_pairOf_2 (by decide) rfl (fun c => ?_) (fun c => ?_)
  · replace h := h.1 c
    refine j_bipush (pc' := 16) (v := 12) hκ (by decide) dX10_pairOf_14 rfl ?_
    refine j_iload_n (pc' := 17) hκ 1 rfl rfl dX10_pairOf_16 rfl ?_
    refine j_imul (pc' := 18) hκ dX10_pairOf_17 rfl ?_
    refine j_iload_n (pc' := 19) hκ 0 rfl rfl dX10_pairOf_18 rfl ?_
    refine j_iadd (pc' := 20) hκ dX10_pairOf_19 rfl ?_
    exact hR _ _ _ _ dX10_pairOf_20 h
  · replace h := h.2 c
    refine j_bipush (pc' := 7) (v := 12) hκ (by decide) dX10_pairOf_5 rfl ?_
    refine j_iload_n (pc' := 8) hκ 0 rfl rfl dX10_pairOf_7 rfl ?_
    refine j_imul (pc' := 9) hκ dX10_pairOf_8 rfl ?_
    refine j_iload_n (pc' := 10) hκ 1 rfl rfl dX10_pairOf_9 rfl ?_
    refine j_iadd (pc' := 11) hκ dX10_pairOf_10 rfl ?_
    refine j_goto (pc' := 20) hκ (by decide) dX10_pairOf_11 ?_
    exact hR _ _ _ _ dX10_pairOf_20 h
theorem c_m_pairOf {g : Gx} (hg : Dg g) {X M : ST} {p0 : Int32} {p1 : Int32} {post : Int32 → ST → Prop} (h : wp_m_pairOf M p0 p1 post) (l : Launch) : Met l yX10_pairOf wq_X10_pairOf rm_m_pairOf (va_Pc [.int p0, .int p1] (PU g X M)) (va_Qi post (fun Y t => va_P g.1 vwCl (ww g X Y) t.heap) (wA g)) 0 0 (wA g) :=
  met_mi hg (by decide) rfl [.int p0, .int p1] rfl (Nat.le_of_ble_eq_true rfl) (fun κ hκ hR => lb_m_pairOf hκ hR h) l
theorem wm_42_17 : Cond.methodLink RX10 243 yX10_pairOf ∈ wAll := inr_42 (List.mem_of_getElem? (i := 17) rfl)
theorem wm_42_18 : Cond.static yX10_pairOf ∈ wAll := inr_42 (List.mem_of_getElem? (i := 18) rfl)
theorem wm_42_19 : Cond.code yX10_pairOf cX10_pairOf 2 (some .int) ∈ wAll := inr_42 (List.mem_of_getElem? (i := 19) rfl)
theorem hqS_X10_pairOf : yX10_pairOf.cls ≠ "java/lang/invoke/MethodHandle" ∧ yX10_pairOf.cls ≠ "java/lang/invoke/VarHandle" ∧ (parseMethodDescriptor yX10_pairOf.desc).map (fun d => d.parameters.length) = some 2 := by decide +kernel
abbrev rm_m_isTwins : Room := { frames := 2, cells := 0, slots := 0, locals := 45 }
def wp_m_isTwins_39 (post : Int32 → ST → Prop) (M : ST) (l1 : Int32) (l2 : Int32) : Prop :=
  wp_m_pairOf M l1 l2 (fun r8 M7 => vp_in r8 144 ∧ ((¬ (m_pairs M7 r8.toNatClampNeg) = 2 → (post 0 M7)) ∧ ((m_pairs M7 r8.toNatClampNeg) = 2 → (post 1 M7))))
set_option maxHeartbeats 4000000 in
set_option maxRecDepth 100000 in
theorem lb_m_isTwins_39 {κ : Cx} {g : Gx} {X : ST} (hκ : CF κ g RX10 cX10_isTwins wq_X10_isTwins 3 rm_m_isTwins) {post : Int32 → ST → Prop} (hR : RtmZ κ g 3 cX10_isTwins X post) : ∀ (M : ST) (l1 : Int32) (l2 : Int32), wp_m_isTwins_39 post M l1 l2 → Jw κ g 3 X M [(0, .ref (g.2.1 11)), (1, .int l1), (2, .int l2)] 39 [] := by
  intro M l1 l2  h
  unfold wp_m_isTwins_39 at h
  refine j_aload_n (pc' := 40) hκ 0 rfl rfl dX10_isTwins_39 rfl ?_
  refine jg_11_24 (pc' := 43) hκ (mi inlX10) (fl_in hκ (mc wm_8_6)) dX10_isTwins_40 rfl ?_
  refine j_iload_n (pc' := 44) hκ 1 rfl rfl dX10_isTwins_43 rfl ?_
  refine j_iload_n (pc' := 45) hκ 2 rfl rfl dX10_isTwins_44 rfl ?_
  refine jm_callSi (pc' := 48) hκ (c_m_pairOf (dg hκ) h) rfl rfl rfl (gS wm_42_17 wm_42_18 wm_1_5 wm_42_19) hqS_X10_pairOf ⟨Nat.le_of_ble_eq_true rfl, Nat.le_of_ble_eq_true rfl⟩ rfl rfl (Nat.le_of_ble_eq_true rfl) dX10_isTwins_45 rfl (fun r8 M7 h => ?_)
  refine jm_iald (pc' := 49) hκ (ah_67 g) h.1 dX10_isTwins_48 rfl ?_
  replace h := h.2
  refine j_iconst (pc' := 50) (v := 2) hκ (by decide) dX10_isTwins_49 rfl ?_
  refine j_icmp_ne (tgt := 57) (pc' := 53) hκ dX10_isTwins_50 (by decide) rfl (fun c => ?_) (fun c => ?_)
  · replace h := h.1 c
    refine j_iconst (pc' := 58) (v := 0) hκ (by decide) dX10_isTwins_57 rfl ?_
    exact hR _ _ _ _ dX10_isTwins_58 (Or.inl rfl) h
  · replace h := h.2 c
    refine j_iconst (pc' := 54) (v := 1) hκ (by decide) dX10_isTwins_53 rfl ?_
    refine j_goto (pc' := 58) hκ (by decide) dX10_isTwins_54 ?_
    exact hR _ _ _ _ dX10_isTwins_58 (Or.inr rfl) h
def wp_m_isTwins (M : ST) (p1 : Int32) (p2 : Int32) (post : Int32 → ST → Prop) : Prop :=
  wp_m_isLit M p1 (fun r2 M1 => (r2 = 0 → (post 0 M1)) ∧ (¬ r2 = 0 → (wp_m_isLit M1 p2 (fun r4 M3 => (r4 = 0 → (post 0 M3)) ∧ (¬ r4 = 0 → ((p1 = p2 → (post 0 M3)) ∧ (¬ p1 = p2 → (wp_m_twinOf M3 p1 (fun r6 M5 => (r6 = p2 → (wp_m_isTwins_39 post M5 p1 p2)) ∧ (¬ r6 = p2 → (wp_m_twinOf M5 p2 (fun r10 M9 => (¬ r10 = p1 → (post 0 M9)) ∧ (r10 = p1 → (wp_m_isTwins_39 post M9 p1 p2))))))))))))))
set_option maxHeartbeats 4000000 in
set_option maxRecDepth 100000 in
theorem lb_m_isTwins {κ : Cx} {g : Gx} {X : ST} (hκ : CF κ g RX10 cX10_isTwins wq_X10_isTwins 3 rm_m_isTwins) {post : Int32 → ST → Prop} (hR : RtmZ κ g 3 cX10_isTwins X post) {M : ST} {p1 : Int32} {p2 : Int32} (h : wp_m_isTwins M p1 p2 post) : Jw κ g 3 X M [(0, .ref (g.2.1 11)), (1, .int p1), (2, .int p2)] 0 [] := by
  unfold wp_m_isTwins at h
  refine j_aload_n (pc' := 1) hκ 0 rfl rfl dX10_isTwins_0 rfl ?_
  refine j_iload_n (pc' := 2) hκ 1 rfl rfl dX10_isTwins_1 rfl ?_
  refine jm_callVi (pc' := 5) hκ (c_m_isLit (dg hκ) h) rfl rfl rfl (gV wm_27_8 wm_27_9 wm_27_10 wm_1_5 wm_27_11) hqV_X10_isLit ⟨Nat.le_of_ble_eq_true rfl, Nat.le_of_ble_eq_true rfl⟩ (wg_11 g _ _) rfl rfl rfl (Nat.le_of_ble_eq_true rfl) dX10_isTwins_2 rfl (fun r2 M1 h => ?_)
  refine j_if_eq (tgt := 57) (pc' := 8) hκ dX10_isTwins_5 (by decide) rfl (fun c => ?_) (fun c => ?_)
  · replace h := h.1 c
    refine j_iconst (pc' := 58) (v := 0) hκ (by decide) dX10_isTwins_57 rfl ?_
    exact hR _ _ _ _ dX10_isTwins_58 (Or.inl rfl) h
  · replace h := h.2 c
    refine j_aload_n (pc' := 9) hκ 0 rfl rfl dX10_isTwins_8 rfl ?_
    refine j_iload_n (pc' := 10) hκ 2 rfl rfl dX10_isTwins_9 rfl ?_
    refine jm_callVi (pc' := 13) hκ (c_m_isLit (dg hκ) h) rfl rfl rfl (gV wm_27_8 wm_27_9 wm_27_10 wm_1_5 wm_27_11) hqV_X10_isLit ⟨Nat.le_of_ble_eq_true rfl, Nat.le_of_ble_eq_true rfl⟩ (wg_11 g _ _) rfl rfl rfl (Nat.le_of_ble_eq_true rfl) dX10_isTwins_10 rfl (fun r4 M3 h => ?_)
    refine j_if_eq (tgt := 57) (pc' := 16) hκ dX10_isTwins_13 (by decide) rfl (fun c => ?_) (fun c => ?_)
    · replace h := h.1 c
      refine j_iconst (pc' := 58) (v := 0) hκ (by decide) dX10_isTwins_57 rfl ?_
      exact hR _ _ _ _ dX10_isTwins_58 (Or.inl rfl) h
    · replace h := h.2 c
      refine j_iload_n (pc' := 17) hκ 1 rfl rfl dX10_isTwins_16 rfl ?_
      refine j_iload_n (pc' := 18) hκ 2 rfl rfl dX10_isTwins_17 rfl ?_
      refine j_icmp_eq (tgt := 57) (pc' := 21) hκ dX10_isTwins_18 (by decide) rfl (fun c => ?_) (fun c => ?_)
      · replace h := h.1 c
        refine j_iconst (pc' := 58) (v := 0) hκ (by decide) dX10_isTwins_57 rfl ?_
        exact hR _ _ _ _ dX10_isTwins_58 (Or.inl rfl) h
      · replace h := h.2 c
        refine j_aload_n (pc' := 22) hκ 0 rfl rfl dX10_isTwins_21 rfl ?_
        refine j_iload_n (pc' := 23) hκ 1 rfl rfl dX10_isTwins_22 rfl ?_
        refine jm_callVi (pc' := 26) hκ (c_m_twinOf (dg hκ) h) rfl rfl rfl (gV wm_19_17 wm_19_18 wm_19_19 wm_1_5 wm_19_20) hqV_X10_twinOf ⟨Nat.le_of_ble_eq_true rfl, Nat.le_of_ble_eq_true rfl⟩ (wg_11 g _ _) rfl rfl rfl (Nat.le_of_ble_eq_true rfl) dX10_isTwins_23 rfl (fun r6 M5 h => ?_)
        refine j_iload_n (pc' := 27) hκ 2 rfl rfl dX10_isTwins_26 rfl ?_
        refine j_icmp_eq (tgt := 39) (pc' := 30) hκ dX10_isTwins_27 (by decide) rfl (fun c => ?_) (fun c => ?_)
        · replace h := h.1 c
          refine lb_m_isTwins_39 hκ hR _ _ _  h
        · replace h := h.2 c
          refine j_aload_n (pc' := 31) hκ 0 rfl rfl dX10_isTwins_30 rfl ?_
          refine j_iload_n (pc' := 32) hκ 2 rfl rfl dX10_isTwins_31 rfl ?_
          refine jm_callVi (pc' := 35) hκ (c_m_twinOf (dg hκ) h) rfl rfl rfl (gV wm_19_17 wm_19_18 wm_19_19 wm_1_5 wm_19_20) hqV_X10_twinOf ⟨Nat.le_of_ble_eq_true rfl, Nat.le_of_ble_eq_true rfl⟩ (wg_11 g _ _) rfl rfl rfl (Nat.le_of_ble_eq_true rfl) dX10_isTwins_32 rfl (fun r10 M9 h => ?_)
          refine j_iload_n (pc' := 36) hκ 1 rfl rfl dX10_isTwins_35 rfl ?_
          refine j_icmp_ne (tgt := 57) (pc' := 39) hκ dX10_isTwins_36 (by decide) rfl (fun c => ?_) (fun c => ?_)
          · replace h := h.1 c
            refine j_iconst (pc' := 58) (v := 0) hκ (by decide) dX10_isTwins_57 rfl ?_
            exact hR _ _ _ _ dX10_isTwins_58 (Or.inl rfl) h
          · replace h := h.2 c
            refine lb_m_isTwins_39 hκ hR _ _ _  h
theorem c_m_isTwins {g : Gx} (hg : Dg g) {X M : ST} {p1 : Int32} {p2 : Int32} {post : Int32 → ST → Prop} (h : wp_m_isTwins M p1 p2 post) (l : Launch) : Met l yX10_isTwins wq_X10_isTwins rm_m_isTwins (va_Pc [.ref (g.2.1 11), .int p1, .int p2] (PU g X M)) (va_Qi post (fun Y t => va_P g.1 vwCl (ww g X Y) t.heap) (wA g)) 0 0 (wA g) :=
  met_mz hg (by decide) rfl [.ref (g.2.1 11), .int p1, .int p2] rfl (Nat.le_of_ble_eq_true rfl) (fun κ hκ hR => lb_m_isTwins hκ hR h) l
theorem wm_42_13 : Cond.methodLink RX10 261 yX10_isTwins ∈ wAll := inr_42 (List.mem_of_getElem? (i := 13) rfl)
theorem wm_42_14 : Cond.instanceMethod yX10_isTwins ∈ wAll := inr_42 (List.mem_of_getElem? (i := 14) rfl)
theorem wm_42_15 : Cond.selects RX10 yX10_isTwins yX10_isTwins ∈ wAll := inr_42 (List.mem_of_getElem? (i := 15) rfl)
theorem wm_42_16 : Cond.code yX10_isTwins cX10_isTwins 3 (some .boolean) ∈ wAll := inr_42 (List.mem_of_getElem? (i := 16) rfl)
theorem hqV_X10_isTwins : yX10_isTwins.cls = RX10 ∧ yX10_isTwins.cls ≠ "java/lang/invoke/MethodHandle" ∧ yX10_isTwins.cls ≠ "java/lang/invoke/VarHandle" ∧ (parseMethodDescriptor yX10_isTwins.desc).map (fun d => d.parameters.length) = some 2 := by decide +kernel
abbrev rm_m_isPart : Room := { frames := 2, cells := 0, slots := 0, locals := 42 }
def wp_m_isPart (M : ST) (p1 : Int32) (p2 : Int32) (post : Int32 → ST → Prop) : Prop :=
  (p2 ≤ p1 → (post 0 M)) ∧ (¬ p2 ≤ p1 → (wp_m_isLit M p1 (fun r2 M1 => (r2 = 0 → (post 0 M1)) ∧ (¬ r2 = 0 → (wp_m_isLit M1 p2 (fun r4 M3 => (r4 = 0 → (post 0 M3)) ∧ (¬ r4 = 0 → (wp_m_pairOf M3 p1 p2 (fun r6 M5 => vp_in r6 144 ∧ ((¬ (m_pairs M5 r6.toNatClampNeg) = 0 → (post 0 M5)) ∧ ((m_pairs M5 r6.toNatClampNeg) = 0 → (post 1 M5))))))))))))
set_option maxHeartbeats 4000000 in
set_option maxRecDepth 100000 in
theorem lb_m_isPart {κ : Cx} {g : Gx} {X : ST} (hκ : CF κ g RX10 cX10_isPart wq_X10_isPart 3 rm_m_isPart) {post : Int32 → ST → Prop} (hR : RtmZ κ g 3 cX10_isPart X post) {M : ST} {p1 : Int32} {p2 : Int32} (h : wp_m_isPart M p1 p2 post) : Jw κ g 3 X M [(0, .ref (g.2.1 11)), (1, .int p1), (2, .int p2)] 0 [] := by
  unfold wp_m_isPart at h
  refine j_iload_n (pc' := 1) hκ 1 rfl rfl dX10_isPart_0 rfl ?_
  refine j_iload_n (pc' := 2) hκ 2 rfl rfl dX10_isPart_1 rfl ?_
  refine j_icmp_ge (tgt := 38) (pc' := 5) hκ dX10_isPart_2 (by decide) rfl (fun c => ?_) (fun c => ?_)
  · replace h := h.1 c
    refine j_iconst (pc' := 39) (v := 0) hκ (by decide) dX10_isPart_38 rfl ?_
    exact hR _ _ _ _ dX10_isPart_39 (Or.inl rfl) h
  · replace h := h.2 c
    refine j_aload_n (pc' := 6) hκ 0 rfl rfl dX10_isPart_5 rfl ?_
    refine j_iload_n (pc' := 7) hκ 1 rfl rfl dX10_isPart_6 rfl ?_
    refine jm_callVi (pc' := 10) hκ (c_m_isLit (dg hκ) h) rfl rfl rfl (gV wm_27_8 wm_27_9 wm_27_10 wm_1_5 wm_27_11) hqV_X10_isLit ⟨Nat.le_of_ble_eq_true rfl, Nat.le_of_ble_eq_true rfl⟩ (wg_11 g _ _) rfl rfl rfl (Nat.le_of_ble_eq_true rfl) dX10_isPart_7 rfl (fun r2 M1 h => ?_)
    refine j_if_eq (tgt := 38) (pc' := 13) hκ dX10_isPart_10 (by decide) rfl (fun c => ?_) (fun c => ?_)
    · replace h := h.1 c
      refine j_iconst (pc' := 39) (v := 0) hκ (by decide) dX10_isPart_38 rfl ?_
      exact hR _ _ _ _ dX10_isPart_39 (Or.inl rfl) h
    · replace h := h.2 c
      refine j_aload_n (pc' := 14) hκ 0 rfl rfl dX10_isPart_13 rfl ?_
      refine j_iload_n (pc' := 15) hκ 2 rfl rfl dX10_isPart_14 rfl ?_
      refine jm_callVi (pc' := 18) hκ (c_m_isLit (dg hκ) h) rfl rfl rfl (gV wm_27_8 wm_27_9 wm_27_10 wm_1_5 wm_27_11) hqV_X10_isLit ⟨Nat.le_of_ble_eq_true rfl, Nat.le_of_ble_eq_true rfl⟩ (wg_11 g _ _) rfl rfl rfl (Nat.le_of_ble_eq_true rfl) dX10_isPart_15 rfl (fun r4 M3 h => ?_)
      refine j_if_eq (tgt := 38) (pc' := 21) hκ dX10_isPart_18 (by decide) rfl (fun c => ?_) (fun c => ?_)
      · replace h := h.1 c
        refine j_iconst (pc' := 39) (v := 0) hκ (by decide) dX10_isPart_38 rfl ?_
        exact hR _ _ _ _ dX10_isPart_39 (Or.inl rfl) h
      · replace h := h.2 c
        refine j_aload_n (pc' := 22) hκ 0 rfl rfl dX10_isPart_21 rfl ?_
        refine jg_11_24 (pc' := 25) hκ (mi inlX10) (fl_in hκ (mc wm_8_6)) dX10_isPart_22 rfl ?_
        refine j_iload_n (pc' := 26) hκ 1 rfl rfl dX10_isPart_25 rfl ?_
        refine j_iload_n (pc' := 27) hκ 2 rfl rfl dX10_isPart_26 rfl ?_
        refine jm_callSi (pc' := 30) hκ (c_m_pairOf (dg hκ) h) rfl rfl rfl (gS wm_42_17 wm_42_18 wm_1_5 wm_42_19) hqS_X10_pairOf ⟨Nat.le_of_ble_eq_true rfl, Nat.le_of_ble_eq_true rfl⟩ rfl rfl (Nat.le_of_ble_eq_true rfl) dX10_isPart_27 rfl (fun r6 M5 h => ?_)
        refine jm_iald (pc' := 31) hκ (ah_67 g) h.1 dX10_isPart_30 rfl ?_
        replace h := h.2
        refine j_if_ne (tgt := 38) (pc' := 34) hκ dX10_isPart_31 (by decide) rfl (fun c => ?_) (fun c => ?_)
        · replace h := h.1 c
          refine j_iconst (pc' := 39) (v := 0) hκ (by decide) dX10_isPart_38 rfl ?_
          exact hR _ _ _ _ dX10_isPart_39 (Or.inl rfl) h
        · replace h := h.2 c
          refine j_iconst (pc' := 35) (v := 1) hκ (by decide) dX10_isPart_34 rfl ?_
          refine j_goto (pc' := 39) hκ (by decide) dX10_isPart_35 ?_
          exact hR _ _ _ _ dX10_isPart_39 (Or.inr rfl) h
theorem c_m_isPart {g : Gx} (hg : Dg g) {X M : ST} {p1 : Int32} {p2 : Int32} {post : Int32 → ST → Prop} (h : wp_m_isPart M p1 p2 post) (l : Launch) : Met l yX10_isPart wq_X10_isPart rm_m_isPart (va_Pc [.ref (g.2.1 11), .int p1, .int p2] (PU g X M)) (va_Qi post (fun Y t => va_P g.1 vwCl (ww g X Y) t.heap) (wA g)) 0 0 (wA g) :=
  met_mz hg (by decide) rfl [.ref (g.2.1 11), .int p1, .int p2] rfl (Nat.le_of_ble_eq_true rfl) (fun κ hκ hR => lb_m_isPart hκ hR h) l
theorem wm_43_0 : Cond.methodLink RX10 249 yX10_isPart ∈ wAll := inr_43 (List.mem_of_getElem? (i := 0) rfl)
theorem wm_43_1 : Cond.instanceMethod yX10_isPart ∈ wAll := inr_43 (List.mem_of_getElem? (i := 1) rfl)
theorem wm_43_2 : Cond.selects RX10 yX10_isPart yX10_isPart ∈ wAll := inr_43 (List.mem_of_getElem? (i := 2) rfl)
theorem wm_43_3 : Cond.code yX10_isPart cX10_isPart 3 (some .boolean) ∈ wAll := inr_43 (List.mem_of_getElem? (i := 3) rfl)
theorem hqV_X10_isPart : yX10_isPart.cls = RX10 ∧ yX10_isPart.cls ≠ "java/lang/invoke/MethodHandle" ∧ yX10_isPart.cls ≠ "java/lang/invoke/VarHandle" ∧ (parseMethodDescriptor yX10_isPart.desc).map (fun d => d.parameters.length) = some 2 := by decide +kernel
abbrev rm_m_isFew : Room := { frames := 2, cells := 0, slots := 0, locals := 42 }
def wp_m_isFew_14_s (K63 : ST → Int32 → Prop) (post : Int32 → ST → Prop) (rec : ST → Int32 → Int32 → Int32 → Prop) (M : ST) (l1 : Int32) (l2 : Int32) (l3 : Int32) : Prop :=
  ((m_lamps M) ≤ l3 → (K63 M l2)) ∧ (¬ (m_lamps M) ≤ l3 → ((l3 = l1 → (∀ v3 : Int32, v3 = l2 + 0 → rec M l1 v3 (l3 + 1))) ∧ (¬ l3 = l1 → (wp_m_isLit M l3 (fun r5 M4 => (r5 = 0 → (∀ v6 : Int32, v6 = l2 + 0 → rec M4 l1 v6 (l3 + 1))) ∧ (¬ r5 = 0 → (wp_m_pairOf M4 l1 l3 (fun r8 M7 => vp_in r8 144 ∧ (((m_pairs M7 r8.toNatClampNeg) = 2 → (∀ v9 : Int32, v9 = l2 + 0 → rec M7 l1 v9 (l3 + 1))) ∧ (¬ (m_pairs M7 r8.toNatClampNeg) = 2 → (∀ v10 : Int32, v10 = l2 + 1 → rec M7 l1 v10 (l3 + 1))))))))))))
def wp_m_isFew_14 (K63 : ST → Int32 → Prop) (post : Int32 → ST → Prop) : Nat → ST → Int32 → Int32 → Int32 → Prop
  | 0 => fun _ _ _ _ => False
  | n + 1 => wp_m_isFew_14_s K63 post (wp_m_isFew_14 K63 post n)
set_option maxHeartbeats 4000000 in
set_option maxRecDepth 100000 in
theorem lb_m_isFew_14 {κ : Cx} {g : Gx} {X : ST} (hκ : CF κ g RX10 cX10_isFew wq_X10_isFew 4 rm_m_isFew) {post : Int32 → ST → Prop} (hR : RtmZ κ g 4 cX10_isFew X post) {K63 : ST → Int32 → Prop} (hK63 : ∀ (M : ST) (l2 : Int32), K63 M l2 → Jw κ g 4 X M [(2, .int l2)] 63 []) : ∀ (n : Nat) (M : ST) (l1 : Int32) (l2 : Int32) (l3 : Int32), wp_m_isFew_14 K63 post n M l1 l2 l3 → Jw κ g 4 X M [(0, .ref (g.2.1 11)), (1, .int l1), (2, .int l2), (3, .int l3)] 14 [] := by
  intro n
  induction n with
  | zero =>
    intro M l1 l2 l3  h
    exact h.elim
  | succ n ih =>
    intro M l1 l2 l3  h
    have h : wp_m_isFew_14_s K63 post (wp_m_isFew_14 K63 post n) M l1 l2 l3 := h
    unfold wp_m_isFew_14_s at h
    refine j_iload_n (pc' := 15) hκ 3 rfl rfl dX10_isFew_14 rfl ?_
    refine j_aload_n (pc' := 16) hκ 0 rfl rfl dX10_isFew_15 rfl ?_
    refine jg_11_9 (pc' := 19) hκ (mi inlX10) (fl_in hκ (mc wm_17_13)) dX10_isFew_16 rfl ?_
    refine j_icmp_ge (tgt := 63) (pc' := 22) hκ dX10_isFew_19 (by decide) rfl (fun c => ?_) (fun c => ?_)
    · replace h := h.1 c
      refine j_sub [2] rfl ?_
      exact hK63 _ _  h
    · replace h := h.2 c
      refine j_iload_n (pc' := 23) hκ 2 rfl rfl dX10_isFew_22 rfl ?_
      refine j_iload_n (pc' := 24) hκ 3 rfl rfl dX10_isFew_23 rfl ?_
      refine j_iload_n (pc' := 25) hκ 1 rfl rfl dX10_isFew_24 rfl ?_
      refine j_icmp_eq (tgt := 54) (pc' := 28) hκ dX10_isFew_25 (by decide) rfl (fun c => ?_) (fun c => ?_)
      · replace h := h.1 c
        refine j_iconst (pc' := 55) (v := 0) hκ (by decide) dX10_isFew_54 rfl ?_
        refine j_iadd (pc' := 56) hκ dX10_isFew_55 rfl ?_
        refine j_topi (fun v3 ev3 => ?_)
        replace h := h v3 ev3
        refine j_istore_n (pc' := 57) (lv' := [(2, .int v3), (0, .ref (g.2.1 11)), (1, .int l1), (3, .int l3)]) hκ (Nat.le_of_ble_eq_true rfl) rfl rfl dX10_isFew_56 rfl ?_
        refine j_iinc (pc' := 60) (v := l3 + 1) (lv' := [(3, .int (l3 + 1)), (2, .int v3), (0, .ref (g.2.1 11)), (1, .int l1)]) hκ 3 rfl rfl (Nat.le_of_ble_eq_true rfl) rfl dX10_isFew_57 rfl ?_
        refine j_goto (pc' := 14) hκ (by decide) dX10_isFew_60 ?_
        refine j_sub [2, 3, 1, 0] rfl ?_
        exact ih _ _ _ _  h
      · replace h := h.2 c
        refine j_aload_n (pc' := 29) hκ 0 rfl rfl dX10_isFew_28 rfl ?_
        refine j_iload_n (pc' := 30) hκ 3 rfl rfl dX10_isFew_29 rfl ?_
        refine jm_callVi (pc' := 33) hκ (c_m_isLit (dg hκ) h) rfl rfl rfl (gV wm_27_8 wm_27_9 wm_27_10 wm_1_5 wm_27_11) hqV_X10_isLit ⟨Nat.le_of_ble_eq_true rfl, Nat.le_of_ble_eq_true rfl⟩ (wg_11 g _ _) rfl rfl rfl (Nat.le_of_ble_eq_true rfl) dX10_isFew_30 rfl (fun r5 M4 h => ?_)
        refine j_if_eq (tgt := 54) (pc' := 36) hκ dX10_isFew_33 (by decide) rfl (fun c => ?_) (fun c => ?_)
        · replace h := h.1 c
          refine j_iconst (pc' := 55) (v := 0) hκ (by decide) dX10_isFew_54 rfl ?_
          refine j_iadd (pc' := 56) hκ dX10_isFew_55 rfl ?_
          refine j_topi (fun v6 ev6 => ?_)
          replace h := h v6 ev6
          refine j_istore_n (pc' := 57) (lv' := [(2, .int v6), (0, .ref (g.2.1 11)), (1, .int l1), (3, .int l3)]) hκ (Nat.le_of_ble_eq_true rfl) rfl rfl dX10_isFew_56 rfl ?_
          refine j_iinc (pc' := 60) (v := l3 + 1) (lv' := [(3, .int (l3 + 1)), (2, .int v6), (0, .ref (g.2.1 11)), (1, .int l1)]) hκ 3 rfl rfl (Nat.le_of_ble_eq_true rfl) rfl dX10_isFew_57 rfl ?_
          refine j_goto (pc' := 14) hκ (by decide) dX10_isFew_60 ?_
          refine j_sub [2, 3, 1, 0] rfl ?_
          exact ih _ _ _ _  h
        · replace h := h.2 c
          refine j_aload_n (pc' := 37) hκ 0 rfl rfl dX10_isFew_36 rfl ?_
          refine jg_11_24 (pc' := 40) hκ (mi inlX10) (fl_in hκ (mc wm_8_6)) dX10_isFew_37 rfl ?_
          refine j_iload_n (pc' := 41) hκ 1 rfl rfl dX10_isFew_40 rfl ?_
          refine j_iload_n (pc' := 42) hκ 3 rfl rfl dX10_isFew_41 rfl ?_
          refine jm_callSi (pc' := 45) hκ (c_m_pairOf (dg hκ) h) rfl rfl rfl (gS wm_42_17 wm_42_18 wm_1_5 wm_42_19) hqS_X10_pairOf ⟨Nat.le_of_ble_eq_true rfl, Nat.le_of_ble_eq_true rfl⟩ rfl rfl (Nat.le_of_ble_eq_true rfl) dX10_isFew_42 rfl (fun r8 M7 h => ?_)
          refine jm_iald (pc' := 46) hκ (ah_67 g) h.1 dX10_isFew_45 rfl ?_
          replace h := h.2
          refine j_iconst (pc' := 47) (v := 2) hκ (by decide) dX10_isFew_46 rfl ?_
          refine j_icmp_eq (tgt := 54) (pc' := 50) hκ dX10_isFew_47 (by decide) rfl (fun c => ?_) (fun c => ?_)
          · replace h := h.1 c
            refine j_iconst (pc' := 55) (v := 0) hκ (by decide) dX10_isFew_54 rfl ?_
            refine j_iadd (pc' := 56) hκ dX10_isFew_55 rfl ?_
            refine j_topi (fun v9 ev9 => ?_)
            replace h := h v9 ev9
            refine j_istore_n (pc' := 57) (lv' := [(2, .int v9), (0, .ref (g.2.1 11)), (1, .int l1), (3, .int l3)]) hκ (Nat.le_of_ble_eq_true rfl) rfl rfl dX10_isFew_56 rfl ?_
            refine j_iinc (pc' := 60) (v := l3 + 1) (lv' := [(3, .int (l3 + 1)), (2, .int v9), (0, .ref (g.2.1 11)), (1, .int l1)]) hκ 3 rfl rfl (Nat.le_of_ble_eq_true rfl) rfl dX10_isFew_57 rfl ?_
            refine j_goto (pc' := 14) hκ (by decide) dX10_isFew_60 ?_
            refine j_sub [2, 3, 1, 0] rfl ?_
            exact ih _ _ _ _  h
          · replace h := h.2 c
            refine j_iconst (pc' := 51) (v := 1) hκ (by decide) dX10_isFew_50 rfl ?_
            refine j_goto (pc' := 55) hκ (by decide) dX10_isFew_51 ?_
            refine j_iadd (pc' := 56) hκ dX10_isFew_55 rfl ?_
            refine j_topi (fun v10 ev10 => ?_)
            replace h := h v10 ev10
            refine j_istore_n (pc' := 57) (lv' := [(2, .int v10), (0, .ref (g.2.1 11)), (1, .int l1), (3, .int l3)]) hκ (Nat.le_of_ble_eq_true rfl) rfl rfl dX10_isFew_56 rfl ?_
            refine j_iinc (pc' := 60) (v := l3 + 1) (lv' := [(3, .int (l3 + 1)), (2, .int v10), (0, .ref (g.2.1 11)), (1, .int l1)]) hκ 3 rfl rfl (Nat.le_of_ble_eq_true rfl) rfl dX10_isFew_57 rfl ?_
            refine j_goto (pc' := 14) hκ (by decide) dX10_isFew_60 ?_
            refine j_sub [2, 3, 1, 0] rfl ?_
            exact ih _ _ _ _  h
def wp_m_isFew (M : ST) (p1 : Int32) (post : Int32 → ST → Prop) : Prop :=
  wp_m_isLit M p1 (fun r2 M1 => (¬ r2 = 0 → (∃ n, wp_m_isFew_14 (fun M11 v12 => (2 ≤ v12 → (post 0 M11)) ∧ (¬ 2 ≤ v12 → (post 1 M11))) post n M1 p1 0 0)) ∧ (r2 = 0 → (post 0 M1)))
set_option maxHeartbeats 4000000 in
set_option maxRecDepth 100000 in
theorem lb_m_isFew {κ : Cx} {g : Gx} {X : ST} (hκ : CF κ g RX10 cX10_isFew wq_X10_isFew 4 rm_m_isFew) {post : Int32 → ST → Prop} (hR : RtmZ κ g 4 cX10_isFew X post) {M : ST} {p1 : Int32} (h : wp_m_isFew M p1 post) : Jw κ g 4 X M [(0, .ref (g.2.1 11)), (1, .int p1)] 0 [] := by
  unfold wp_m_isFew at h
  refine j_aload_n (pc' := 1) hκ 0 rfl rfl dX10_isFew_0 rfl ?_
  refine j_iload_n (pc' := 2) hκ 1 rfl rfl dX10_isFew_1 rfl ?_
  refine jm_callVi (pc' := 5) hκ (c_m_isLit (dg hκ) h) rfl rfl rfl (gV wm_27_8 wm_27_9 wm_27_10 wm_1_5 wm_27_11) hqV_X10_isLit ⟨Nat.le_of_ble_eq_true rfl, Nat.le_of_ble_eq_true rfl⟩ (wg_11 g _ _) rfl rfl rfl (Nat.le_of_ble_eq_true rfl) dX10_isFew_2 rfl (fun r2 M1 h => ?_)
  refine j_if_ne (tgt := 10) (pc' := 8) hκ dX10_isFew_5 (by decide) rfl (fun c => ?_) (fun c => ?_)
  · replace h := h.1 c
    refine j_iconst (pc' := 11) (v := 0) hκ (by decide) dX10_isFew_10 rfl ?_
    refine j_istore_n (pc' := 12) (lv' := [(2, .int 0), (0, .ref (g.2.1 11)), (1, .int p1)]) hκ (Nat.le_of_ble_eq_true rfl) rfl rfl dX10_isFew_11 rfl ?_
    refine j_iconst (pc' := 13) (v := 0) hκ (by decide) dX10_isFew_12 rfl ?_
    refine j_istore_n (pc' := 14) (lv' := [(3, .int 0), (2, .int 0), (0, .ref (g.2.1 11)), (1, .int p1)]) hκ (Nat.le_of_ble_eq_true rfl) rfl rfl dX10_isFew_13 rfl ?_
    obtain ⟨n, h⟩ := h
    refine j_sub [2, 3, 1, 0] rfl ?_
    refine lb_m_isFew_14 hκ hR ?_ n _ _ _ _  h
    intro M11 v12  h
    refine j_iload_n (pc' := 64) hκ 0 rfl rfl dX10_isFew_63 rfl ?_
    refine j_iconst (pc' := 65) (v := 2) hκ (by decide) dX10_isFew_64 rfl ?_
    refine j_icmp_ge (tgt := 72) (pc' := 68) hκ dX10_isFew_65 (by decide) rfl (fun c => ?_) (fun c => ?_)
    · replace h := h.1 c
      refine j_iconst (pc' := 73) (v := 0) hκ (by decide) dX10_isFew_72 rfl ?_
      exact hR _ _ _ _ dX10_isFew_73 (Or.inl rfl) h
    · replace h := h.2 c
      refine j_iconst (pc' := 69) (v := 1) hκ (by decide) dX10_isFew_68 rfl ?_
      refine j_goto (pc' := 73) hκ (by decide) dX10_isFew_69 ?_
      exact hR _ _ _ _ dX10_isFew_73 (Or.inr rfl) h
  · replace h := h.2 c
    refine j_iconst (pc' := 9) (v := 0) hκ (by decide) dX10_isFew_8 rfl ?_
    exact hR _ _ _ _ dX10_isFew_9 (Or.inl rfl) h
theorem c_m_isFew {g : Gx} (hg : Dg g) {X M : ST} {p1 : Int32} {post : Int32 → ST → Prop} (h : wp_m_isFew M p1 post) (l : Launch) : Met l yX10_isFew wq_X10_isFew rm_m_isFew (va_Pc [.ref (g.2.1 11), .int p1] (PU g X M)) (va_Qi post (fun Y t => va_P g.1 vwCl (ww g X Y) t.heap) (wA g)) 0 0 (wA g) :=
  met_mz hg (by decide) rfl [.ref (g.2.1 11), .int p1] rfl (Nat.le_of_ble_eq_true rfl) (fun κ hκ hR => lb_m_isFew hκ hR h) l
theorem wm_43_4 : Cond.methodLink RX10 252 yX10_isFew ∈ wAll := inr_43 (List.mem_of_getElem? (i := 4) rfl)
theorem wm_43_5 : Cond.instanceMethod yX10_isFew ∈ wAll := inr_43 (List.mem_of_getElem? (i := 5) rfl)
theorem wm_43_6 : Cond.selects RX10 yX10_isFew yX10_isFew ∈ wAll := inr_43 (List.mem_of_getElem? (i := 6) rfl)
theorem wm_43_7 : Cond.code yX10_isFew cX10_isFew 4 (some .boolean) ∈ wAll := inr_43 (List.mem_of_getElem? (i := 7) rfl)
theorem hqV_X10_isFew : yX10_isFew.cls = RX10 ∧ yX10_isFew.cls ≠ "java/lang/invoke/MethodHandle" ∧ yX10_isFew.cls ≠ "java/lang/invoke/VarHandle" ∧ (parseMethodDescriptor yX10_isFew.desc).map (fun d => d.parameters.length) = some 1 := by decide +kernel
abbrev rm_m_joinedOf : Room := { frames := 2, cells := 0, slots := 0, locals := 42 }
def wp_m_joinedOf_4_s (K53 : ST → Int32 → Prop) (post : Int32 → ST → Prop) (rec : ST → Int32 → Int32 → Int32 → Prop) (M : ST) (l1 : Int32) (l2 : Int32) (l3 : Int32) : Prop :=
  ((m_lamps M) ≤ l3 → (K53 M l2)) ∧ (¬ (m_lamps M) ≤ l3 → ((l3 = l1 → (∀ v1 : Int32, v1 = l2 + 0 → rec M l1 v1 (l3 + 1))) ∧ (¬ l3 = l1 → (wp_m_isLit M l3 (fun r3 M2 => (r3 = 0 → (∀ v4 : Int32, v4 = l2 + 0 → rec M2 l1 v4 (l3 + 1))) ∧ (¬ r3 = 0 → (wp_m_pairOf M2 l1 l3 (fun r6 M5 => vp_in r6 144 ∧ ((¬ (m_pairs M5 r6.toNatClampNeg) = 1 → (∀ v7 : Int32, v7 = l2 + 0 → rec M5 l1 v7 (l3 + 1))) ∧ ((m_pairs M5 r6.toNatClampNeg) = 1 → (∀ v8 : Int32, v8 = l2 + 1 → rec M5 l1 v8 (l3 + 1))))))))))))
def wp_m_joinedOf_4 (K53 : ST → Int32 → Prop) (post : Int32 → ST → Prop) : Nat → ST → Int32 → Int32 → Int32 → Prop
  | 0 => fun _ _ _ _ => False
  | n + 1 => wp_m_joinedOf_4_s K53 post (wp_m_joinedOf_4 K53 post n)
set_option maxHeartbeats 4000000 in
set_option maxRecDepth 100000 in
theorem lb_m_joinedOf_4 {κ : Cx} {g : Gx} {X : ST} (hκ : CF κ g RX10 cX10_joinedOf wq_X10_joinedOf 4 rm_m_joinedOf) {post : Int32 → ST → Prop} (hR : RtmI κ g 4 cX10_joinedOf X post) {K53 : ST → Int32 → Prop} (hK53 : ∀ (M : ST) (l2 : Int32), K53 M l2 → Jw κ g 4 X M [(2, .int l2)] 53 []) : ∀ (n : Nat) (M : ST) (l1 : Int32) (l2 : Int32) (l3 : Int32), wp_m_joinedOf_4 K53 post n M l1 l2 l3 → Jw κ g 4 X M [(0, .ref (g.2.1 11)), (1, .int l1), (2, .int l2), (3, .int l3)] 4 [] := by
  intro n
  induction n with
  | zero =>
    intro M l1 l2 l3  h
    exact h.elim
  | succ n ih =>
    intro M l1 l2 l3  h
    have h : wp_m_joinedOf_4_s K53 post (wp_m_joinedOf_4 K53 post n) M l1 l2 l3 := h
    unfold wp_m_joinedOf_4_s at h
    refine j_iload_n (pc' := 5) hκ 3 rfl rfl dX10_joinedOf_4 rfl ?_
    refine j_aload_n (pc' := 6) hκ 0 rfl rfl dX10_joinedOf_5 rfl ?_
    refine jg_11_9 (pc' := 9) hκ (mi inlX10) (fl_in hκ (mc wm_17_13)) dX10_joinedOf_6 rfl ?_
    refine j_icmp_ge (tgt := 53) (pc' := 12) hκ dX10_joinedOf_9 (by decide) rfl (fun c => ?_) (fun c => ?_)
    · replace h := h.1 c
      refine j_sub [2] rfl ?_
      exact hK53 _ _  h
    · replace h := h.2 c
      refine j_iload_n (pc' := 13) hκ 2 rfl rfl dX10_joinedOf_12 rfl ?_
      refine j_iload_n (pc' := 14) hκ 3 rfl rfl dX10_joinedOf_13 rfl ?_
      refine j_iload_n (pc' := 15) hκ 1 rfl rfl dX10_joinedOf_14 rfl ?_
      refine j_icmp_eq (tgt := 44) (pc' := 18) hκ dX10_joinedOf_15 (by decide) rfl (fun c => ?_) (fun c => ?_)
      · replace h := h.1 c
        refine j_iconst (pc' := 45) (v := 0) hκ (by decide) dX10_joinedOf_44 rfl ?_
        refine j_iadd (pc' := 46) hκ dX10_joinedOf_45 rfl ?_
        refine j_topi (fun v1 ev1 => ?_)
        replace h := h v1 ev1
        refine j_istore_n (pc' := 47) (lv' := [(2, .int v1), (0, .ref (g.2.1 11)), (1, .int l1), (3, .int l3)]) hκ (Nat.le_of_ble_eq_true rfl) rfl rfl dX10_joinedOf_46 rfl ?_
        refine j_iinc (pc' := 50) (v := l3 + 1) (lv' := [(3, .int (l3 + 1)), (2, .int v1), (0, .ref (g.2.1 11)), (1, .int l1)]) hκ 3 rfl rfl (Nat.le_of_ble_eq_true rfl) rfl dX10_joinedOf_47 rfl ?_
        refine j_goto (pc' := 4) hκ (by decide) dX10_joinedOf_50 ?_
        refine j_sub [2, 3, 1, 0] rfl ?_
        exact ih _ _ _ _  h
      · replace h := h.2 c
        refine j_aload_n (pc' := 19) hκ 0 rfl rfl dX10_joinedOf_18 rfl ?_
        refine j_iload_n (pc' := 20) hκ 3 rfl rfl dX10_joinedOf_19 rfl ?_
        refine jm_callVi (pc' := 23) hκ (c_m_isLit (dg hκ) h) rfl rfl rfl (gV wm_27_8 wm_27_9 wm_27_10 wm_1_5 wm_27_11) hqV_X10_isLit ⟨Nat.le_of_ble_eq_true rfl, Nat.le_of_ble_eq_true rfl⟩ (wg_11 g _ _) rfl rfl rfl (Nat.le_of_ble_eq_true rfl) dX10_joinedOf_20 rfl (fun r3 M2 h => ?_)
        refine j_if_eq (tgt := 44) (pc' := 26) hκ dX10_joinedOf_23 (by decide) rfl (fun c => ?_) (fun c => ?_)
        · replace h := h.1 c
          refine j_iconst (pc' := 45) (v := 0) hκ (by decide) dX10_joinedOf_44 rfl ?_
          refine j_iadd (pc' := 46) hκ dX10_joinedOf_45 rfl ?_
          refine j_topi (fun v4 ev4 => ?_)
          replace h := h v4 ev4
          refine j_istore_n (pc' := 47) (lv' := [(2, .int v4), (0, .ref (g.2.1 11)), (1, .int l1), (3, .int l3)]) hκ (Nat.le_of_ble_eq_true rfl) rfl rfl dX10_joinedOf_46 rfl ?_
          refine j_iinc (pc' := 50) (v := l3 + 1) (lv' := [(3, .int (l3 + 1)), (2, .int v4), (0, .ref (g.2.1 11)), (1, .int l1)]) hκ 3 rfl rfl (Nat.le_of_ble_eq_true rfl) rfl dX10_joinedOf_47 rfl ?_
          refine j_goto (pc' := 4) hκ (by decide) dX10_joinedOf_50 ?_
          refine j_sub [2, 3, 1, 0] rfl ?_
          exact ih _ _ _ _  h
        · replace h := h.2 c
          refine j_aload_n (pc' := 27) hκ 0 rfl rfl dX10_joinedOf_26 rfl ?_
          refine jg_11_24 (pc' := 30) hκ (mi inlX10) (fl_in hκ (mc wm_8_6)) dX10_joinedOf_27 rfl ?_
          refine j_iload_n (pc' := 31) hκ 1 rfl rfl dX10_joinedOf_30 rfl ?_
          refine j_iload_n (pc' := 32) hκ 3 rfl rfl dX10_joinedOf_31 rfl ?_
          refine jm_callSi (pc' := 35) hκ (c_m_pairOf (dg hκ) h) rfl rfl rfl (gS wm_42_17 wm_42_18 wm_1_5 wm_42_19) hqS_X10_pairOf ⟨Nat.le_of_ble_eq_true rfl, Nat.le_of_ble_eq_true rfl⟩ rfl rfl (Nat.le_of_ble_eq_true rfl) dX10_joinedOf_32 rfl (fun r6 M5 h => ?_)
          refine jm_iald (pc' := 36) hκ (ah_67 g) h.1 dX10_joinedOf_35 rfl ?_
          replace h := h.2
          refine j_iconst (pc' := 37) (v := 1) hκ (by decide) dX10_joinedOf_36 rfl ?_
          refine j_icmp_ne (tgt := 44) (pc' := 40) hκ dX10_joinedOf_37 (by decide) rfl (fun c => ?_) (fun c => ?_)
          · replace h := h.1 c
            refine j_iconst (pc' := 45) (v := 0) hκ (by decide) dX10_joinedOf_44 rfl ?_
            refine j_iadd (pc' := 46) hκ dX10_joinedOf_45 rfl ?_
            refine j_topi (fun v7 ev7 => ?_)
            replace h := h v7 ev7
            refine j_istore_n (pc' := 47) (lv' := [(2, .int v7), (0, .ref (g.2.1 11)), (1, .int l1), (3, .int l3)]) hκ (Nat.le_of_ble_eq_true rfl) rfl rfl dX10_joinedOf_46 rfl ?_
            refine j_iinc (pc' := 50) (v := l3 + 1) (lv' := [(3, .int (l3 + 1)), (2, .int v7), (0, .ref (g.2.1 11)), (1, .int l1)]) hκ 3 rfl rfl (Nat.le_of_ble_eq_true rfl) rfl dX10_joinedOf_47 rfl ?_
            refine j_goto (pc' := 4) hκ (by decide) dX10_joinedOf_50 ?_
            refine j_sub [2, 3, 1, 0] rfl ?_
            exact ih _ _ _ _  h
          · replace h := h.2 c
            refine j_iconst (pc' := 41) (v := 1) hκ (by decide) dX10_joinedOf_40 rfl ?_
            refine j_goto (pc' := 45) hκ (by decide) dX10_joinedOf_41 ?_
            refine j_iadd (pc' := 46) hκ dX10_joinedOf_45 rfl ?_
            refine j_topi (fun v8 ev8 => ?_)
            replace h := h v8 ev8
            refine j_istore_n (pc' := 47) (lv' := [(2, .int v8), (0, .ref (g.2.1 11)), (1, .int l1), (3, .int l3)]) hκ (Nat.le_of_ble_eq_true rfl) rfl rfl dX10_joinedOf_46 rfl ?_
            refine j_iinc (pc' := 50) (v := l3 + 1) (lv' := [(3, .int (l3 + 1)), (2, .int v8), (0, .ref (g.2.1 11)), (1, .int l1)]) hκ 3 rfl rfl (Nat.le_of_ble_eq_true rfl) rfl dX10_joinedOf_47 rfl ?_
            refine j_goto (pc' := 4) hκ (by decide) dX10_joinedOf_50 ?_
            refine j_sub [2, 3, 1, 0] rfl ?_
            exact ih _ _ _ _  h
def wp_m_joinedOf (M : ST) (p1 : Int32) (post : Int32 → ST → Prop) : Prop :=
  ∃ n, wp_m_joinedOf_4 (fun M9 v10 => post v10 M9) post n M p1 0 0
set_option maxHeartbeats 4000000 in
set_option maxRecDepth 100000 in
theorem lb_m_joinedOf {κ : Cx} {g : Gx} {X : ST} (hκ : CF κ g RX10 cX10_joinedOf wq_X10_joinedOf 4 rm_m_joinedOf) {post : Int32 → ST → Prop} (hR : RtmI κ g 4 cX10_joinedOf X post) {M : ST} {p1 : Int32} (h : wp_m_joinedOf M p1 post) : Jw κ g 4 X M [(0, .ref (g.2.1 11)), (1, .int p1)] 0 [] := by
  unfold wp_m_joinedOf at h
  refine j_iconst (pc' := 1) (v := 0) hκ (by decide) dX10_joinedOf_0 rfl ?_
  refine j_istore_n (pc' := 2) (lv' := [(2, .int 0), (0, .ref (g.2.1 11)), (1, .int p1)]) hκ (Nat.le_of_ble_eq_true rfl) rfl rfl dX10_joinedOf_1 rfl ?_
  refine j_iconst (pc' := 3) (v := 0) hκ (by decide) dX10_joinedOf_2 rfl ?_
  refine j_istore_n (pc' := 4) (lv' := [(3, .int 0), (2, .int 0), (0, .ref (g.2.1 11)), (1, .int p1)]) hκ (Nat.le_of_ble_eq_true rfl) rfl rfl dX10_joinedOf_3 rfl ?_
  obtain ⟨n, h⟩ := h
  refine j_sub [2, 3, 1, 0] rfl ?_
  refine lb_m_joinedOf_4 hκ hR ?_ n _ _ _ _  h
  intro M9 v10  h
  refine j_iload_n (pc' := 54) hκ 0 rfl rfl dX10_joinedOf_53 rfl ?_
  exact hR _ _ _ _ dX10_joinedOf_54 h
theorem c_m_joinedOf {g : Gx} (hg : Dg g) {X M : ST} {p1 : Int32} {post : Int32 → ST → Prop} (h : wp_m_joinedOf M p1 post) (l : Launch) : Met l yX10_joinedOf wq_X10_joinedOf rm_m_joinedOf (va_Pc [.ref (g.2.1 11), .int p1] (PU g X M)) (va_Qi post (fun Y t => va_P g.1 vwCl (ww g X Y) t.heap) (wA g)) 0 0 (wA g) :=
  met_mi hg (by decide) rfl [.ref (g.2.1 11), .int p1] rfl (Nat.le_of_ble_eq_true rfl) (fun κ hκ hR => lb_m_joinedOf hκ hR h) l
theorem wm_43_12 : Cond.methodLink RX10 246 yX10_joinedOf ∈ wAll := inr_43 (List.mem_of_getElem? (i := 12) rfl)
theorem wm_43_13 : Cond.instanceMethod yX10_joinedOf ∈ wAll := inr_43 (List.mem_of_getElem? (i := 13) rfl)
theorem wm_43_14 : Cond.selects RX10 yX10_joinedOf yX10_joinedOf ∈ wAll := inr_43 (List.mem_of_getElem? (i := 14) rfl)
theorem wm_43_15 : Cond.code yX10_joinedOf cX10_joinedOf 4 (some .int) ∈ wAll := inr_43 (List.mem_of_getElem? (i := 15) rfl)
theorem hqV_X10_joinedOf : yX10_joinedOf.cls = RX10 ∧ yX10_joinedOf.cls ≠ "java/lang/invoke/MethodHandle" ∧ yX10_joinedOf.cls ≠ "java/lang/invoke/VarHandle" ∧ (parseMethodDescriptor yX10_joinedOf.desc).map (fun d => d.parameters.length) = some 1 := by decide +kernel
abbrev rm_m_isMany : Room := { frames := 3, cells := 0, slots := 0, locals := 65 }
def wp_m_isMany (M : ST) (p1 : Int32) (post : Int32 → ST → Prop) : Prop :=
  wp_m_isLit M p1 (fun r2 M1 => (r2 = 0 → (post 0 M1)) ∧ (¬ r2 = 0 → (wp_m_joinedOf M1 p1 (fun r4 M3 => (r4 ≤ 2 → (post 0 M3)) ∧ (¬ r4 ≤ 2 → (post 1 M3))))))
set_option maxHeartbeats 4000000 in
set_option maxRecDepth 100000 in
theorem lb_m_isMany {κ : Cx} {g : Gx} {X : ST} (hκ : CF κ g RX10 cX10_isMany wq_X10_isMany 2 rm_m_isMany) {post : Int32 → ST → Prop} (hR : RtmZ κ g 2 cX10_isMany X post) {M : ST} {p1 : Int32} (h : wp_m_isMany M p1 post) : Jw κ g 2 X M [(0, .ref (g.2.1 11)), (1, .int p1)] 0 [] := by
  unfold wp_m_isMany at h
  refine j_aload_n (pc' := 1) hκ 0 rfl rfl dX10_isMany_0 rfl ?_
  refine j_iload_n (pc' := 2) hκ 1 rfl rfl dX10_isMany_1 rfl ?_
  refine jm_callVi (pc' := 5) hκ (c_m_isLit (dg hκ) h) rfl rfl rfl (gV wm_27_8 wm_27_9 wm_27_10 wm_1_5 wm_27_11) hqV_X10_isLit ⟨Nat.le_of_ble_eq_true rfl, Nat.le_of_ble_eq_true rfl⟩ (wg_11 g _ _) rfl rfl rfl (Nat.le_of_ble_eq_true rfl) dX10_isMany_2 rfl (fun r2 M1 h => ?_)
  refine j_if_eq (tgt := 21) (pc' := 8) hκ dX10_isMany_5 (by decide) rfl (fun c => ?_) (fun c => ?_)
  · replace h := h.1 c
    refine j_iconst (pc' := 22) (v := 0) hκ (by decide) dX10_isMany_21 rfl ?_
    exact hR _ _ _ _ dX10_isMany_22 (Or.inl rfl) h
  · replace h := h.2 c
    refine j_aload_n (pc' := 9) hκ 0 rfl rfl dX10_isMany_8 rfl ?_
    refine j_iload_n (pc' := 10) hκ 1 rfl rfl dX10_isMany_9 rfl ?_
    refine jm_callVi (pc' := 13) hκ (c_m_joinedOf (dg hκ) h) rfl rfl rfl (gV wm_43_12 wm_43_13 wm_43_14 wm_1_5 wm_43_15) hqV_X10_joinedOf ⟨Nat.le_of_ble_eq_true rfl, Nat.le_of_ble_eq_true rfl⟩ (wg_11 g _ _) rfl rfl rfl (Nat.le_of_ble_eq_true rfl) dX10_isMany_10 rfl (fun r4 M3 h => ?_)
    refine j_iconst (pc' := 14) (v := 2) hκ (by decide) dX10_isMany_13 rfl ?_
    refine j_icmp_le (tgt := 21) (pc' := 17) hκ dX10_isMany_14 (by decide) rfl (fun c => ?_) (fun c => ?_)
    · replace h := h.1 c
      refine j_iconst (pc' := 22) (v := 0) hκ (by decide) dX10_isMany_21 rfl ?_
      exact hR _ _ _ _ dX10_isMany_22 (Or.inl rfl) h
    · replace h := h.2 c
      refine j_iconst (pc' := 18) (v := 1) hκ (by decide) dX10_isMany_17 rfl ?_
      refine j_goto (pc' := 22) hκ (by decide) dX10_isMany_18 ?_
      exact hR _ _ _ _ dX10_isMany_22 (Or.inr rfl) h
theorem c_m_isMany {g : Gx} (hg : Dg g) {X M : ST} {p1 : Int32} {post : Int32 → ST → Prop} (h : wp_m_isMany M p1 post) (l : Launch) : Met l yX10_isMany wq_X10_isMany rm_m_isMany (va_Pc [.ref (g.2.1 11), .int p1] (PU g X M)) (va_Qi post (fun Y t => va_P g.1 vwCl (ww g X Y) t.heap) (wA g)) 0 0 (wA g) :=
  met_mz hg (by decide) rfl [.ref (g.2.1 11), .int p1] rfl (Nat.le_of_ble_eq_true rfl) (fun κ hκ hR => lb_m_isMany hκ hR h) l
theorem wm_43_8 : Cond.methodLink RX10 255 yX10_isMany ∈ wAll := inr_43 (List.mem_of_getElem? (i := 8) rfl)
theorem wm_43_9 : Cond.instanceMethod yX10_isMany ∈ wAll := inr_43 (List.mem_of_getElem? (i := 9) rfl)
theorem wm_43_10 : Cond.selects RX10 yX10_isMany yX10_isMany ∈ wAll := inr_43 (List.mem_of_getElem? (i := 10) rfl)
theorem wm_43_11 : Cond.code yX10_isMany cX10_isMany 2 (some .boolean) ∈ wAll := inr_43 (List.mem_of_getElem? (i := 11) rfl)
theorem hqV_X10_isMany : yX10_isMany.cls = RX10 ∧ yX10_isMany.cls ≠ "java/lang/invoke/MethodHandle" ∧ yX10_isMany.cls ≠ "java/lang/invoke/VarHandle" ∧ (parseMethodDescriptor yX10_isMany.desc).map (fun d => d.parameters.length) = some 1 := by decide +kernel
theorem wm_8_11 : Cond.fieldLink RX10 87 "LampRoundModel" "ring" "[Z" ∈ wAll := inr_8 (List.mem_of_getElem? (i := 11) rfl)
abbrev rm_m_isRing : Room := { frames := 3, cells := 0, slots := 0, locals := 65 }
def wp_m_isRing_12_s (K40 : ST → Prop) (post : Int32 → ST → Prop) (rec : ST → Int32 → Int32 → Prop) (M : ST) (l1 : Int32) (l2 : Int32) : Prop :=
  (12 ≤ l2 → (K40 M)) ∧ (¬ 12 ≤ l2 → ((¬ l2 = l1 → (vp_in l2 12 ∧ (∀ M3 : ST, M3 = ms_ring M (upd (m_ring M) l2.toNatClampNeg (vp_nar .boolean 0)) → rec M3 l1 (l2 + 1)))) ∧ (l2 = l1 → (vp_in l2 12 ∧ (∀ M4 : ST, M4 = ms_ring M (upd (m_ring M) l2.toNatClampNeg (vp_nar .boolean 1)) → rec M4 l1 (l2 + 1))))))
def wp_m_isRing_12 (K40 : ST → Prop) (post : Int32 → ST → Prop) : Nat → ST → Int32 → Int32 → Prop
  | 0 => fun _ _ _ => False
  | n + 1 => wp_m_isRing_12_s K40 post (wp_m_isRing_12 K40 post n)
set_option maxHeartbeats 4000000 in
set_option maxRecDepth 100000 in
theorem lb_m_isRing_12 {κ : Cx} {g : Gx} {X : ST} (hκ : CF κ g RX10 cX10_isRing wq_X10_isRing 6 rm_m_isRing) {post : Int32 → ST → Prop} (hR : RtmZ κ g 6 cX10_isRing X post) {K40 : ST → Prop} (hK40 : ∀ (M : ST), K40 M → Jw κ g 6 X M [(0, .ref (g.2.1 11))] 40 []) : ∀ (n : Nat) (M : ST) (l1 : Int32) (l2 : Int32), wp_m_isRing_12 K40 post n M l1 l2 → Jw κ g 6 X M [(0, .ref (g.2.1 11)), (1, .int l1), (2, .int l2)] 12 [] := by
  intro n
  induction n with
  | zero =>
    intro M l1 l2  h
    exact h.elim
  | succ n ih =>
    intro M l1 l2  h
    have h : wp_m_isRing_12_s K40 post (wp_m_isRing_12 K40 post n) M l1 l2 := h
    unfold wp_m_isRing_12_s at h
    refine j_iload_n (pc' := 13) hκ 2 rfl rfl dX10_isRing_12 rfl ?_
    refine j_bipush (pc' := 15) (v := 12) hκ (by decide) dX10_isRing_13 rfl ?_
    refine j_icmp_ge (tgt := 40) (pc' := 18) hκ dX10_isRing_15 (by decide) rfl (fun c => ?_) (fun c => ?_)
    · replace h := h.1 c
      refine j_sub [0] rfl ?_
      exact hK40 _  h
    · replace h := h.2 c
      refine j_aload_n (pc' := 19) hκ 0 rfl rfl dX10_isRing_18 rfl ?_
      refine jg_11_31 (pc' := 22) hκ (mi inlX10) (fl_in hκ (mc wm_8_11)) dX10_isRing_19 rfl ?_
      refine j_iload_n (pc' := 23) hκ 2 rfl rfl dX10_isRing_22 rfl ?_
      refine j_iload_n (pc' := 24) hκ 2 rfl rfl dX10_isRing_23 rfl ?_
      refine j_iload_n (pc' := 25) hκ 1 rfl rfl dX10_isRing_24 rfl ?_
      refine j_icmp_ne (tgt := 32) (pc' := 28) hκ dX10_isRing_25 (by decide) rfl (fun c => ?_) (fun c => ?_)
      · replace h := h.1 c
        refine j_iconst (pc' := 33) (v := 0) hκ (by decide) dX10_isRing_32 rfl ?_
        refine jm_zast (pc' := 34) hκ (ah_72 g) h.1 dX10_isRing_33 rfl ?_
        replace h := h.2
        refine j_nmM (fun M3 eM3 => ?_)
        replace h := h M3 eM3
        refine j_iinc (pc' := 37) (v := l2 + 1) (lv' := [(2, .int (l2 + 1)), (0, .ref (g.2.1 11)), (1, .int l1)]) hκ 2 rfl rfl (Nat.le_of_ble_eq_true rfl) rfl dX10_isRing_34 rfl ?_
        refine j_goto (pc' := 12) hκ (by decide) dX10_isRing_37 ?_
        refine j_sub [1, 2, 0] rfl ?_
        exact ih _ _ _  h
      · replace h := h.2 c
        refine j_iconst (pc' := 29) (v := 1) hκ (by decide) dX10_isRing_28 rfl ?_
        refine j_goto (pc' := 33) hκ (by decide) dX10_isRing_29 ?_
        refine jm_zast (pc' := 34) hκ (ah_72 g) h.1 dX10_isRing_33 rfl ?_
        replace h := h.2
        refine j_nmM (fun M4 eM4 => ?_)
        replace h := h M4 eM4
        refine j_iinc (pc' := 37) (v := l2 + 1) (lv' := [(2, .int (l2 + 1)), (0, .ref (g.2.1 11)), (1, .int l1)]) hκ 2 rfl rfl (Nat.le_of_ble_eq_true rfl) rfl dX10_isRing_34 rfl ?_
        refine j_goto (pc' := 12) hκ (by decide) dX10_isRing_37 ?_
        refine j_sub [1, 2, 0] rfl ?_
        exact ih _ _ _  h
def wp_m_isRing_50_s (K124 : ST → Int32 → Prop) (post : Int32 → ST → Prop) (rec : ST → Int32 → Int32 → Prop) (M : ST) (l2 : Int32) (l3 : Int32) : Prop :=
  (144 ≤ l3 → (K124 M l2)) ∧ (¬ 144 ≤ l3 → (wp_m_isPair M l3 (fun r7 M6 => (r7 = 0 → (rec M6 l2 (l3 + 1))) ∧ (¬ r7 = 0 → (vp_in l3 144 ∧ ((¬ (m_pairs M6 l3.toNatClampNeg) = 1 → (rec M6 l2 (l3 + 1))) ∧ ((m_pairs M6 l3.toNatClampNeg) = 1 → (vp_in (l3 / 12) 12 ∧ (vp_in (l3 - l3 / 12 * 12) 12 ∧ (((m_ring M6 (l3 / 12).toNatClampNeg) = (m_ring M6 (l3 - l3 / 12 * 12).toNatClampNeg) → (rec M6 l2 (l3 + 1))) ∧ (¬ (m_ring M6 (l3 / 12).toNatClampNeg) = (m_ring M6 (l3 - l3 / 12 * 12).toNatClampNeg) → (vp_in (l3 / 12) 12 ∧ (∀ M8 : ST, M8 = ms_ring M6 (upd (m_ring M6) (l3 / 12).toNatClampNeg (vp_nar .boolean 1)) → vp_in (l3 - l3 / 12 * 12) 12 ∧ (∀ M9 : ST, M9 = ms_ring M8 (upd (m_ring M8) (l3 - l3 / 12 * 12).toNatClampNeg (vp_nar .boolean 1)) → rec M9 1 (l3 + 1)))))))))))))))
def wp_m_isRing_50 (K124 : ST → Int32 → Prop) (post : Int32 → ST → Prop) : Nat → ST → Int32 → Int32 → Prop
  | 0 => fun _ _ _ => False
  | n + 1 => wp_m_isRing_50_s K124 post (wp_m_isRing_50 K124 post n)
set_option maxHeartbeats 4000000 in
set_option maxRecDepth 100000 in
theorem lb_m_isRing_50 {κ : Cx} {g : Gx} {X : ST} (hκ : CF κ g RX10 cX10_isRing wq_X10_isRing 6 rm_m_isRing) {post : Int32 → ST → Prop} (hR : RtmZ κ g 6 cX10_isRing X post) {K124 : ST → Int32 → Prop} (hK124 : ∀ (M : ST) (l2 : Int32), K124 M l2 → Jw κ g 6 X M [(0, .ref (g.2.1 11)), (2, .int l2)] 124 []) : ∀ (n : Nat) (M : ST) (l2 : Int32) (l3 : Int32), wp_m_isRing_50 K124 post n M l2 l3 → Jw κ g 6 X M [(0, .ref (g.2.1 11)), (2, .int l2), (3, .int l3)] 50 [] := by
  intro n
  induction n with
  | zero =>
    intro M l2 l3  h
    exact h.elim
  | succ n ih =>
    intro M l2 l3  h
    have h : wp_m_isRing_50_s K124 post (wp_m_isRing_50 K124 post n) M l2 l3 := h
    unfold wp_m_isRing_50_s at h
    refine j_iload_n (pc' := 51) hκ 2 rfl rfl dX10_isRing_50 rfl ?_
    refine j_sipush (pc' := 54) (v := 144) hκ (by decide) dX10_isRing_51 rfl ?_
    refine j_icmp_ge (tgt := 124) (pc' := 57) hκ dX10_isRing_54 (by decide) rfl (fun c => ?_) (fun c => ?_)
    · replace h := h.1 c
      refine j_sub [0, 1] rfl ?_
      exact hK124 _ _  h
    · replace h := h.2 c
      refine j_aload_n (pc' := 58) hκ 0 rfl rfl dX10_isRing_57 rfl ?_
      refine j_iload_n (pc' := 59) hκ 2 rfl rfl dX10_isRing_58 rfl ?_
      refine jm_callVi (pc' := 62) hκ (c_m_isPair (dg hκ) h) rfl rfl rfl (gV wm_36_19 wm_36_20 wm_36_21 wm_1_5 wm_36_22) hqV_X10_isPair ⟨Nat.le_of_ble_eq_true rfl, Nat.le_of_ble_eq_true rfl⟩ (wg_11 g _ _) rfl rfl rfl (Nat.le_of_ble_eq_true rfl) dX10_isRing_59 rfl (fun r7 M6 h => ?_)
      refine j_if_eq (tgt := 118) (pc' := 65) hκ dX10_isRing_62 (by decide) rfl (fun c => ?_) (fun c => ?_)
      · replace h := h.1 c
        refine j_iinc (pc' := 121) (v := l3 + 1) (lv' := [(3, .int (l3 + 1)), (0, .ref (g.2.1 11)), (2, .int l2)]) hκ 2 rfl rfl (Nat.le_of_ble_eq_true rfl) rfl dX10_isRing_118 rfl ?_
        refine j_goto (pc' := 50) hκ (by decide) dX10_isRing_121 ?_
        refine j_sub [1, 2, 0] rfl ?_
        exact ih _ _ _  h
      · replace h := h.2 c
        refine j_aload_n (pc' := 66) hκ 0 rfl rfl dX10_isRing_65 rfl ?_
        refine jg_11_24 (pc' := 69) hκ (mi inlX10) (fl_in hκ (mc wm_8_6)) dX10_isRing_66 rfl ?_
        refine j_iload_n (pc' := 70) hκ 2 rfl rfl dX10_isRing_69 rfl ?_
        refine jm_iald (pc' := 71) hκ (ah_67 g) h.1 dX10_isRing_70 rfl ?_
        replace h := h.2
        refine j_iconst (pc' := 72) (v := 1) hκ (by decide) dX10_isRing_71 rfl ?_
        refine j_icmp_ne (tgt := 118) (pc' := 75) hκ dX10_isRing_72 (by decide) rfl (fun c => ?_) (fun c => ?_)
        · replace h := h.1 c
          refine j_iinc (pc' := 121) (v := l3 + 1) (lv' := [(3, .int (l3 + 1)), (0, .ref (g.2.1 11)), (2, .int l2)]) hκ 2 rfl rfl (Nat.le_of_ble_eq_true rfl) rfl dX10_isRing_118 rfl ?_
          refine j_goto (pc' := 50) hκ (by decide) dX10_isRing_121 ?_
          refine j_sub [1, 2, 0] rfl ?_
          exact ih _ _ _  h
        · replace h := h.2 c
          refine j_aload_n (pc' := 76) hκ 0 rfl rfl dX10_isRing_75 rfl ?_
          refine jg_11_31 (pc' := 79) hκ (mi inlX10) (fl_in hκ (mc wm_8_11)) dX10_isRing_76 rfl ?_
          refine j_iload_n (pc' := 80) hκ 2 rfl rfl dX10_isRing_79 rfl ?_
          refine j_bipush (pc' := 82) (v := 12) hκ (by decide) dX10_isRing_80 rfl ?_
          refine j_idiv (pc' := 83) hκ (by decide) dX10_isRing_82 rfl ?_
          refine jm_zald (pc' := 84) hκ (ah_72 g) h.1 dX10_isRing_83 rfl ?_
          replace h := h.2
          refine j_aload_n (pc' := 85) hκ 0 rfl rfl dX10_isRing_84 rfl ?_
          refine jg_11_31 (pc' := 88) hκ (mi inlX10) (fl_in hκ (mc wm_8_11)) dX10_isRing_85 rfl ?_
          refine j_iload_n (pc' := 89) hκ 2 rfl rfl dX10_isRing_88 rfl ?_
          refine j_bipush (pc' := 91) (v := 12) hκ (by decide) dX10_isRing_89 rfl ?_
          refine j_irem (pc' := 92) hκ (by decide) dX10_isRing_91 rfl ?_
          refine jm_zald (pc' := 93) hκ (ah_72 g) h.1 dX10_isRing_92 rfl ?_
          replace h := h.2
          refine j_icmp_eq (tgt := 118) (pc' := 96) hκ dX10_isRing_93 (by decide) rfl (fun c => ?_) (fun c => ?_)
          · replace h := h.1 c
            refine j_iinc (pc' := 121) (v := l3 + 1) (lv' := [(3, .int (l3 + 1)), (0, .ref (g.2.1 11)), (2, .int l2)]) hκ 2 rfl rfl (Nat.le_of_ble_eq_true rfl) rfl dX10_isRing_118 rfl ?_
            refine j_goto (pc' := 50) hκ (by decide) dX10_isRing_121 ?_
            refine j_sub [1, 2, 0] rfl ?_
            exact ih _ _ _  h
          · replace h := h.2 c
            refine j_aload_n (pc' := 97) hκ 0 rfl rfl dX10_isRing_96 rfl ?_
            refine jg_11_31 (pc' := 100) hκ (mi inlX10) (fl_in hκ (mc wm_8_11)) dX10_isRing_97 rfl ?_
            refine j_iload_n (pc' := 101) hκ 2 rfl rfl dX10_isRing_100 rfl ?_
            refine j_bipush (pc' := 103) (v := 12) hκ (by decide) dX10_isRing_101 rfl ?_
            refine j_idiv (pc' := 104) hκ (by decide) dX10_isRing_103 rfl ?_
            refine j_iconst (pc' := 105) (v := 1) hκ (by decide) dX10_isRing_104 rfl ?_
            refine jm_zast (pc' := 106) hκ (ah_72 g) h.1 dX10_isRing_105 rfl ?_
            replace h := h.2
            refine j_nmM (fun M8 eM8 => ?_)
            replace h := h M8 eM8
            refine j_aload_n (pc' := 107) hκ 0 rfl rfl dX10_isRing_106 rfl ?_
            refine jg_11_31 (pc' := 110) hκ (mi inlX10) (fl_in hκ (mc wm_8_11)) dX10_isRing_107 rfl ?_
            refine j_iload_n (pc' := 111) hκ 2 rfl rfl dX10_isRing_110 rfl ?_
            refine j_bipush (pc' := 113) (v := 12) hκ (by decide) dX10_isRing_111 rfl ?_
            refine j_irem (pc' := 114) hκ (by decide) dX10_isRing_113 rfl ?_
            refine j_iconst (pc' := 115) (v := 1) hκ (by decide) dX10_isRing_114 rfl ?_
            refine jm_zast (pc' := 116) hκ (ah_72 g) h.1 dX10_isRing_115 rfl ?_
            replace h := h.2
            refine j_nmM (fun M9 eM9 => ?_)
            replace h := h M9 eM9
            refine j_iconst (pc' := 117) (v := 1) hκ (by decide) dX10_isRing_116 rfl ?_
            refine j_istore_n (pc' := 118) (lv' := [(2, .int 1), (0, .ref (g.2.1 11)), (3, .int l3)]) hκ (Nat.le_of_ble_eq_true rfl) rfl rfl dX10_isRing_117 rfl ?_
            refine j_iinc (pc' := 121) (v := l3 + 1) (lv' := [(3, .int (l3 + 1)), (2, .int 1), (0, .ref (g.2.1 11))]) hκ 2 rfl rfl (Nat.le_of_ble_eq_true rfl) rfl dX10_isRing_118 rfl ?_
            refine j_goto (pc' := 50) hκ (by decide) dX10_isRing_121 ?_
            refine j_sub [2, 1, 0] rfl ?_
            exact ih _ _ _  h
def wp_m_isRing_42_s (K127 : ST → Prop) (post : Int32 → ST → Prop) (rec : ST → Int32 → Prop) (M : ST) (l2 : Int32) : Prop :=
  (l2 = 0 → (K127 M)) ∧ (¬ l2 = 0 → (∃ n, wp_m_isRing_50 (fun M10 v11 => rec M10 v11) post n M 0 0))
def wp_m_isRing_42 (K127 : ST → Prop) (post : Int32 → ST → Prop) : Nat → ST → Int32 → Prop
  | 0 => fun _ _ => False
  | n + 1 => wp_m_isRing_42_s K127 post (wp_m_isRing_42 K127 post n)
set_option maxHeartbeats 4000000 in
set_option maxRecDepth 100000 in
theorem lb_m_isRing_42 {κ : Cx} {g : Gx} {X : ST} (hκ : CF κ g RX10 cX10_isRing wq_X10_isRing 6 rm_m_isRing) {post : Int32 → ST → Prop} (hR : RtmZ κ g 6 cX10_isRing X post) {K127 : ST → Prop} (hK127 : ∀ (M : ST), K127 M → Jw κ g 6 X M [(0, .ref (g.2.1 11))] 127 []) : ∀ (n : Nat) (M : ST) (l2 : Int32), wp_m_isRing_42 K127 post n M l2 → Jw κ g 6 X M [(0, .ref (g.2.1 11)), (2, .int l2)] 42 [] := by
  intro n
  induction n with
  | zero =>
    intro M l2  h
    exact h.elim
  | succ n ih =>
    intro M l2  h
    have h : wp_m_isRing_42_s K127 post (wp_m_isRing_42 K127 post n) M l2 := h
    unfold wp_m_isRing_42_s at h
    refine j_iload_n (pc' := 43) hκ 1 rfl rfl dX10_isRing_42 rfl ?_
    refine j_if_eq (tgt := 127) (pc' := 46) hκ dX10_isRing_43 (by decide) rfl (fun c => ?_) (fun c => ?_)
    · replace h := h.1 c
      refine j_sub [0] rfl ?_
      exact hK127 _  h
    · replace h := h.2 c
      refine j_iconst (pc' := 47) (v := 0) hκ (by decide) dX10_isRing_46 rfl ?_
      refine j_istore_n (pc' := 48) (lv' := [(2, .int 0), (0, .ref (g.2.1 11))]) hκ (Nat.le_of_ble_eq_true rfl) rfl rfl dX10_isRing_47 rfl ?_
      refine j_iconst (pc' := 49) (v := 0) hκ (by decide) dX10_isRing_48 rfl ?_
      refine j_istore_n (pc' := 50) (lv' := [(3, .int 0), (2, .int 0), (0, .ref (g.2.1 11))]) hκ (Nat.le_of_ble_eq_true rfl) rfl rfl dX10_isRing_49 rfl ?_
      obtain ⟨n, h⟩ := h
      refine j_sub [2, 1, 0] rfl ?_
      refine lb_m_isRing_50 hκ hR ?_ n _ _ _  h
      intro M10 v11  h
      refine j_goto (pc' := 42) hκ (by decide) dX10_isRing_124 ?_
      exact ih _ _  h
def wp_m_isRing_170 (K135 : ST → Int32 → Int32 → Int32 → Prop) (post : Int32 → ST → Prop) (M : ST) (l4 : Int32) (l5 : Int32) (s0 : Int32) (s1 : Int32) : Prop :=
  ∀ v13 : Int32, v13 = s1 &&& s0 → vp_in l5 12 ∧ (((m_ring M l5.toNatClampNeg) = 0 → (∀ v14 : Int32, v14 = l4 &&& 1 → K135 M v13 v14 (l5 + 1))) ∧ (¬ (m_ring M l5.toNatClampNeg) = 0 → (wp_m_joinedOf M l5 (fun r16 M15 => (¬ r16 = 2 → (∀ v17 : Int32, v17 = l4 &&& 0 → K135 M15 v13 v17 (l5 + 1))) ∧ (r16 = 2 → (∀ v18 : Int32, v18 = l4 &&& 1 → K135 M15 v13 v18 (l5 + 1)))))))
set_option maxHeartbeats 4000000 in
set_option maxRecDepth 100000 in
theorem lb_m_isRing_170 {κ : Cx} {g : Gx} {X : ST} (hκ : CF κ g RX10 cX10_isRing wq_X10_isRing 6 rm_m_isRing) {post : Int32 → ST → Prop} (hR : RtmZ κ g 6 cX10_isRing X post) {K135 : ST → Int32 → Int32 → Int32 → Prop} (hK135 : ∀ (M : ST) (l3 : Int32) (l4 : Int32) (l5 : Int32), K135 M l3 l4 l5 → Jw κ g 6 X M [(0, .ref (g.2.1 11)), (3, .int l3), (4, .int l4), (5, .int l5)] 135 []) : ∀ (M : ST) (l4 : Int32) (l5 : Int32) (s0 : Int32) (s1 : Int32), wp_m_isRing_170 K135 post M l4 l5 s0 s1 → Jw κ g 6 X M [(0, .ref (g.2.1 11)), (4, .int l4), (5, .int l5)] 170 [.int s0, .int s1] := by
  intro M l4 l5 s0 s1  h
  unfold wp_m_isRing_170 at h
  refine j_iand (pc' := 171) hκ dX10_isRing_170 rfl ?_
  refine j_topi (fun v13 ev13 => ?_)
  replace h := h v13 ev13
  refine j_istore_n (pc' := 172) (lv' := [(3, .int v13), (0, .ref (g.2.1 11)), (4, .int l4), (5, .int l5)]) hκ (Nat.le_of_ble_eq_true rfl) rfl rfl dX10_isRing_171 rfl ?_
  refine j_iload (pc' := 174) hκ 2 rfl dX10_isRing_172 rfl ?_
  refine j_aload_n (pc' := 175) hκ 1 rfl rfl dX10_isRing_174 rfl ?_
  refine jg_11_31 (pc' := 178) hκ (mi inlX10) (fl_in hκ (mc wm_8_11)) dX10_isRing_175 rfl ?_
  refine j_iload (pc' := 180) hκ 3 rfl dX10_isRing_178 rfl ?_
  refine jm_zald (pc' := 181) hκ (ah_72 g) h.1 dX10_isRing_180 rfl ?_
  replace h := h.2
  refine j_if_eq (tgt := 194) (pc' := 184) hκ dX10_isRing_181 (by decide) rfl (fun c => ?_) (fun c => ?_)
  · replace h := h.1 c
    refine j_iconst (pc' := 195) (v := 1) hκ (by decide) dX10_isRing_194 rfl ?_
    refine j_goto (pc' := 199) hκ (by decide) dX10_isRing_195 ?_
    refine j_iand (pc' := 200) hκ dX10_isRing_199 rfl ?_
    refine j_topi (fun v14 ev14 => ?_)
    replace h := h v14 ev14
    refine j_istore (pc' := 202) (lv' := [(4, .int v14), (3, .int v13), (0, .ref (g.2.1 11)), (5, .int l5)]) hκ (Nat.le_of_ble_eq_true rfl) rfl dX10_isRing_200 rfl ?_
    refine j_iinc (pc' := 205) (v := l5 + 1) (lv' := [(5, .int (l5 + 1)), (4, .int v14), (3, .int v13), (0, .ref (g.2.1 11))]) hκ 3 rfl rfl (Nat.le_of_ble_eq_true rfl) rfl dX10_isRing_202 rfl ?_
    refine j_goto (pc' := 135) hκ (by decide) dX10_isRing_205 ?_
    refine j_sub [3, 2, 1, 0] rfl ?_
    exact hK135 _ _ _ _  h
  · replace h := h.2 c
    refine j_aload_n (pc' := 185) hκ 1 rfl rfl dX10_isRing_184 rfl ?_
    refine j_iload (pc' := 187) hκ 3 rfl dX10_isRing_185 rfl ?_
    refine jm_callVi (pc' := 190) hκ (c_m_joinedOf (dg hκ) h) rfl rfl rfl (gV wm_43_12 wm_43_13 wm_43_14 wm_1_5 wm_43_15) hqV_X10_joinedOf ⟨Nat.le_of_ble_eq_true rfl, Nat.le_of_ble_eq_true rfl⟩ (wg_11 g _ _) rfl rfl rfl (Nat.le_of_ble_eq_true rfl) dX10_isRing_187 rfl (fun r16 M15 h => ?_)
    refine j_iconst (pc' := 191) (v := 2) hκ (by decide) dX10_isRing_190 rfl ?_
    refine j_icmp_ne (tgt := 198) (pc' := 194) hκ dX10_isRing_191 (by decide) rfl (fun c => ?_) (fun c => ?_)
    · replace h := h.1 c
      refine j_iconst (pc' := 199) (v := 0) hκ (by decide) dX10_isRing_198 rfl ?_
      refine j_iand (pc' := 200) hκ dX10_isRing_199 rfl ?_
      refine j_topi (fun v17 ev17 => ?_)
      replace h := h v17 ev17
      refine j_istore (pc' := 202) (lv' := [(4, .int v17), (3, .int v13), (0, .ref (g.2.1 11)), (5, .int l5)]) hκ (Nat.le_of_ble_eq_true rfl) rfl dX10_isRing_200 rfl ?_
      refine j_iinc (pc' := 205) (v := l5 + 1) (lv' := [(5, .int (l5 + 1)), (4, .int v17), (3, .int v13), (0, .ref (g.2.1 11))]) hκ 3 rfl rfl (Nat.le_of_ble_eq_true rfl) rfl dX10_isRing_202 rfl ?_
      refine j_goto (pc' := 135) hκ (by decide) dX10_isRing_205 ?_
      refine j_sub [3, 2, 1, 0] rfl ?_
      exact hK135 _ _ _ _  h
    · replace h := h.2 c
      refine j_iconst (pc' := 195) (v := 1) hκ (by decide) dX10_isRing_194 rfl ?_
      refine j_goto (pc' := 199) hκ (by decide) dX10_isRing_195 ?_
      refine j_iand (pc' := 200) hκ dX10_isRing_199 rfl ?_
      refine j_topi (fun v18 ev18 => ?_)
      replace h := h v18 ev18
      refine j_istore (pc' := 202) (lv' := [(4, .int v18), (3, .int v13), (0, .ref (g.2.1 11)), (5, .int l5)]) hκ (Nat.le_of_ble_eq_true rfl) rfl dX10_isRing_200 rfl ?_
      refine j_iinc (pc' := 205) (v := l5 + 1) (lv' := [(5, .int (l5 + 1)), (4, .int v18), (3, .int v13), (0, .ref (g.2.1 11))]) hκ 3 rfl rfl (Nat.le_of_ble_eq_true rfl) rfl dX10_isRing_202 rfl ?_
      refine j_goto (pc' := 135) hκ (by decide) dX10_isRing_205 ?_
      refine j_sub [3, 2, 1, 0] rfl ?_
      exact hK135 _ _ _ _  h
def wp_m_isRing_165 (K135 : ST → Int32 → Int32 → Int32 → Prop) (post : Int32 → ST → Prop) (M : ST) (l4 : Int32) (l5 : Int32) (s0 : Int32) : Prop :=
  wp_m_isRing_170 K135 post M l4 l5 1 s0
set_option maxHeartbeats 4000000 in
set_option maxRecDepth 100000 in
theorem lb_m_isRing_165 {κ : Cx} {g : Gx} {X : ST} (hκ : CF κ g RX10 cX10_isRing wq_X10_isRing 6 rm_m_isRing) {post : Int32 → ST → Prop} (hR : RtmZ κ g 6 cX10_isRing X post) {K135 : ST → Int32 → Int32 → Int32 → Prop} (hK135 : ∀ (M : ST) (l3 : Int32) (l4 : Int32) (l5 : Int32), K135 M l3 l4 l5 → Jw κ g 6 X M [(0, .ref (g.2.1 11)), (3, .int l3), (4, .int l4), (5, .int l5)] 135 []) : ∀ (M : ST) (l4 : Int32) (l5 : Int32) (s0 : Int32), wp_m_isRing_165 K135 post M l4 l5 s0 → Jw κ g 6 X M [(0, .ref (g.2.1 11)), (4, .int l4), (5, .int l5)] 165 [.int s0] := by
  intro M l4 l5 s0  h
  unfold wp_m_isRing_165 at h
  refine j_iconst (pc' := 166) (v := 1) hκ (by decide) dX10_isRing_165 rfl ?_
  refine j_goto (pc' := 170) hκ (by decide) dX10_isRing_166 ?_
  refine lb_m_isRing_170 hκ hR hK135 _ _ _ _ _  h
def wp_m_isRing_135_s (K208 : ST → Int32 → Int32 → Prop) (post : Int32 → ST → Prop) (rec : ST → Int32 → Int32 → Int32 → Prop) (M : ST) (l3 : Int32) (l4 : Int32) (l5 : Int32) : Prop :=
  ((m_lamps M) ≤ l5 → (K208 M l3 l4)) ∧ (¬ (m_lamps M) ≤ l5 → (vp_in l5 12 ∧ ((¬ (m_isOut M l5.toNatClampNeg) = 0 → (wp_m_isRing_165 rec post M l4 l5 l3)) ∧ ((m_isOut M l5.toNatClampNeg) = 0 → (vp_in l5 12 ∧ (((m_ring M l5.toNatClampNeg) = 0 → (wp_m_isRing_170 rec post M l4 l5 0 l3)) ∧ (¬ (m_ring M l5.toNatClampNeg) = 0 → (wp_m_isRing_165 rec post M l4 l5 l3))))))))
def wp_m_isRing_135 (K208 : ST → Int32 → Int32 → Prop) (post : Int32 → ST → Prop) : Nat → ST → Int32 → Int32 → Int32 → Prop
  | 0 => fun _ _ _ _ => False
  | n + 1 => wp_m_isRing_135_s K208 post (wp_m_isRing_135 K208 post n)
set_option maxHeartbeats 4000000 in
set_option maxRecDepth 100000 in
theorem lb_m_isRing_135 {κ : Cx} {g : Gx} {X : ST} (hκ : CF κ g RX10 cX10_isRing wq_X10_isRing 6 rm_m_isRing) {post : Int32 → ST → Prop} (hR : RtmZ κ g 6 cX10_isRing X post) {K208 : ST → Int32 → Int32 → Prop} (hK208 : ∀ (M : ST) (l3 : Int32) (l4 : Int32), K208 M l3 l4 → Jw κ g 6 X M [(3, .int l3), (4, .int l4)] 208 []) : ∀ (n : Nat) (M : ST) (l3 : Int32) (l4 : Int32) (l5 : Int32), wp_m_isRing_135 K208 post n M l3 l4 l5 → Jw κ g 6 X M [(0, .ref (g.2.1 11)), (3, .int l3), (4, .int l4), (5, .int l5)] 135 [] := by
  intro n
  induction n with
  | zero =>
    intro M l3 l4 l5  h
    exact h.elim
  | succ n ih =>
    intro M l3 l4 l5  h
    have h : wp_m_isRing_135_s K208 post (wp_m_isRing_135 K208 post n) M l3 l4 l5 := h
    unfold wp_m_isRing_135_s at h
    refine j_iload (pc' := 137) hκ 3 rfl dX10_isRing_135 rfl ?_
    refine j_aload_n (pc' := 138) hκ 0 rfl rfl dX10_isRing_137 rfl ?_
    refine jg_11_9 (pc' := 141) hκ (mi inlX10) (fl_in hκ (mc wm_17_13)) dX10_isRing_138 rfl ?_
    refine j_icmp_ge (tgt := 208) (pc' := 144) hκ dX10_isRing_141 (by decide) rfl (fun c => ?_) (fun c => ?_)
    · replace h := h.1 c
      refine j_sub [1, 2] rfl ?_
      exact hK208 _ _ _  h
    · replace h := h.2 c
      refine j_iload_n (pc' := 145) hκ 1 rfl rfl dX10_isRing_144 rfl ?_
      refine j_aload_n (pc' := 146) hκ 0 rfl rfl dX10_isRing_145 rfl ?_
      refine jg_11_13 (pc' := 149) hκ (mi inlX10) (fl_in hκ (mc wm_7_21)) dX10_isRing_146 rfl ?_
      refine j_iload (pc' := 151) hκ 3 rfl dX10_isRing_149 rfl ?_
      refine jm_zald (pc' := 152) hκ (ah_58 g) h.1 dX10_isRing_151 rfl ?_
      replace h := h.2
      refine j_if_ne (tgt := 165) (pc' := 155) hκ dX10_isRing_152 (by decide) rfl (fun c => ?_) (fun c => ?_)
      · replace h := h.1 c
        refine j_sub [0, 2, 3] rfl ?_
        refine lb_m_isRing_165 hκ hR ih _ _ _ _  h
      · replace h := h.2 c
        refine j_aload_n (pc' := 156) hκ 0 rfl rfl dX10_isRing_155 rfl ?_
        refine jg_11_31 (pc' := 159) hκ (mi inlX10) (fl_in hκ (mc wm_8_11)) dX10_isRing_156 rfl ?_
        refine j_iload (pc' := 161) hκ 3 rfl dX10_isRing_159 rfl ?_
        refine jm_zald (pc' := 162) hκ (ah_72 g) h.1 dX10_isRing_161 rfl ?_
        replace h := h.2
        refine j_if_eq (tgt := 169) (pc' := 165) hκ dX10_isRing_162 (by decide) rfl (fun c => ?_) (fun c => ?_)
        · replace h := h.1 c
          refine j_iconst (pc' := 170) (v := 0) hκ (by decide) dX10_isRing_169 rfl ?_
          refine j_sub [0, 2, 3] rfl ?_
          refine lb_m_isRing_170 hκ hR ih _ _ _ _ _  h
        · replace h := h.2 c
          refine j_sub [0, 2, 3] rfl ?_
          refine lb_m_isRing_165 hκ hR ih _ _ _ _  h
def wp_m_isRing (M : ST) (p1 : Int32) (post : Int32 → ST → Prop) : Prop :=
  wp_m_isLit M p1 (fun r2 M1 => (¬ r2 = 0 → (∃ n, wp_m_isRing_12 (fun M5 => ∃ n, wp_m_isRing_42 (fun M12 => ∃ n, wp_m_isRing_135 (fun M19 v20 v21 => (v21 = 0 → (post 0 M19)) ∧ (¬ v21 = 0 → ((¬ v20 = 0 → (post 0 M19)) ∧ (v20 = 0 → (post 1 M19))))) post n M12 1 1 0) post n M5 1) post n M1 p1 0)) ∧ (r2 = 0 → (post 0 M1)))
set_option maxHeartbeats 4000000 in
set_option maxRecDepth 100000 in
theorem lb_m_isRing {κ : Cx} {g : Gx} {X : ST} (hκ : CF κ g RX10 cX10_isRing wq_X10_isRing 6 rm_m_isRing) {post : Int32 → ST → Prop} (hR : RtmZ κ g 6 cX10_isRing X post) {M : ST} {p1 : Int32} (h : wp_m_isRing M p1 post) : Jw κ g 6 X M [(0, .ref (g.2.1 11)), (1, .int p1)] 0 [] := by
  unfold wp_m_isRing at h
  refine j_aload_n (pc' := 1) hκ 0 rfl rfl dX10_isRing_0 rfl ?_
  refine j_iload_n (pc' := 2) hκ 1 rfl rfl dX10_isRing_1 rfl ?_
  refine jm_callVi (pc' := 5) hκ (c_m_isLit (dg hκ) h) rfl rfl rfl (gV wm_27_8 wm_27_9 wm_27_10 wm_1_5 wm_27_11) hqV_X10_isLit ⟨Nat.le_of_ble_eq_true rfl, Nat.le_of_ble_eq_true rfl⟩ (wg_11 g _ _) rfl rfl rfl (Nat.le_of_ble_eq_true rfl) dX10_isRing_2 rfl (fun r2 M1 h => ?_)
  refine j_if_ne (tgt := 10) (pc' := 8) hκ dX10_isRing_5 (by decide) rfl (fun c => ?_) (fun c => ?_)
  · replace h := h.1 c
    refine j_iconst (pc' := 11) (v := 0) hκ (by decide) dX10_isRing_10 rfl ?_
    refine j_istore_n (pc' := 12) (lv' := [(2, .int 0), (0, .ref (g.2.1 11)), (1, .int p1)]) hκ (Nat.le_of_ble_eq_true rfl) rfl rfl dX10_isRing_11 rfl ?_
    obtain ⟨n, h⟩ := h
    refine j_sub [1, 2, 0] rfl ?_
    refine lb_m_isRing_12 hκ hR ?_ n _ _ _  h
    intro M5  h
    refine j_iconst (pc' := 41) (v := 1) hκ (by decide) dX10_isRing_40 rfl ?_
    refine j_istore_n (pc' := 42) (lv' := [(2, .int 1), (0, .ref (g.2.1 11))]) hκ (Nat.le_of_ble_eq_true rfl) rfl rfl dX10_isRing_41 rfl ?_
    obtain ⟨n, h⟩ := h
    refine j_sub [1, 0] rfl ?_
    refine lb_m_isRing_42 hκ hR ?_ n _ _  h
    intro M12  h
    refine j_iconst (pc' := 128) (v := 1) hκ (by decide) dX10_isRing_127 rfl ?_
    refine j_istore_n (pc' := 129) (lv' := [(3, .int 1), (0, .ref (g.2.1 11))]) hκ (Nat.le_of_ble_eq_true rfl) rfl rfl dX10_isRing_128 rfl ?_
    refine j_iconst (pc' := 130) (v := 1) hκ (by decide) dX10_isRing_129 rfl ?_
    refine j_istore (pc' := 132) (lv' := [(4, .int 1), (3, .int 1), (0, .ref (g.2.1 11))]) hκ (Nat.le_of_ble_eq_true rfl) rfl dX10_isRing_130 rfl ?_
    refine j_iconst (pc' := 133) (v := 0) hκ (by decide) dX10_isRing_132 rfl ?_
    refine j_istore (pc' := 135) (lv' := [(5, .int 0), (4, .int 1), (3, .int 1), (0, .ref (g.2.1 11))]) hκ (Nat.le_of_ble_eq_true rfl) rfl dX10_isRing_133 rfl ?_
    obtain ⟨n, h⟩ := h
    refine j_sub [3, 2, 1, 0] rfl ?_
    refine lb_m_isRing_135 hκ hR ?_ n _ _ _ _  h
    intro M19 v20 v21  h
    refine j_iload (pc' := 210) hκ 1 rfl dX10_isRing_208 rfl ?_
    refine j_if_eq (tgt := 221) (pc' := 213) hκ dX10_isRing_210 (by decide) rfl (fun c => ?_) (fun c => ?_)
    · replace h := h.1 c
      refine j_iconst (pc' := 222) (v := 0) hκ (by decide) dX10_isRing_221 rfl ?_
      exact hR _ _ _ _ dX10_isRing_222 (Or.inl rfl) h
    · replace h := h.2 c
      refine j_iload_n (pc' := 214) hκ 0 rfl rfl dX10_isRing_213 rfl ?_
      refine j_if_ne (tgt := 221) (pc' := 217) hκ dX10_isRing_214 (by decide) rfl (fun c => ?_) (fun c => ?_)
      · replace h := h.1 c
        refine j_iconst (pc' := 222) (v := 0) hκ (by decide) dX10_isRing_221 rfl ?_
        exact hR _ _ _ _ dX10_isRing_222 (Or.inl rfl) h
      · replace h := h.2 c
        refine j_iconst (pc' := 218) (v := 1) hκ (by decide) dX10_isRing_217 rfl ?_
        refine j_goto (pc' := 222) hκ (by decide) dX10_isRing_218 ?_
        exact hR _ _ _ _ dX10_isRing_222 (Or.inr rfl) h
  · replace h := h.2 c
    refine j_iconst (pc' := 9) (v := 0) hκ (by decide) dX10_isRing_8 rfl ?_
    exact hR _ _ _ _ dX10_isRing_9 (Or.inl rfl) h
theorem c_m_isRing {g : Gx} (hg : Dg g) {X M : ST} {p1 : Int32} {post : Int32 → ST → Prop} (h : wp_m_isRing M p1 post) (l : Launch) : Met l yX10_isRing wq_X10_isRing rm_m_isRing (va_Pc [.ref (g.2.1 11), .int p1] (PU g X M)) (va_Qi post (fun Y t => va_P g.1 vwCl (ww g X Y) t.heap) (wA g)) 0 0 (wA g) :=
  met_mz hg (by decide) rfl [.ref (g.2.1 11), .int p1] rfl (Nat.le_of_ble_eq_true rfl) (fun κ hκ hR => lb_m_isRing hκ hR h) l
theorem wm_43_16 : Cond.methodLink RX10 258 yX10_isRing ∈ wAll := inr_43 (List.mem_of_getElem? (i := 16) rfl)
theorem wm_43_17 : Cond.instanceMethod yX10_isRing ∈ wAll := inr_43 (List.mem_of_getElem? (i := 17) rfl)
theorem wm_43_18 : Cond.selects RX10 yX10_isRing yX10_isRing ∈ wAll := inr_43 (List.mem_of_getElem? (i := 18) rfl)
theorem wm_43_19 : Cond.code yX10_isRing cX10_isRing 6 (some .boolean) ∈ wAll := inr_43 (List.mem_of_getElem? (i := 19) rfl)
theorem hqV_X10_isRing : yX10_isRing.cls = RX10 ∧ yX10_isRing.cls ≠ "java/lang/invoke/MethodHandle" ∧ yX10_isRing.cls ≠ "java/lang/invoke/VarHandle" ∧ (parseMethodDescriptor yX10_isRing.desc).map (fun d => d.parameters.length) = some 1 := by decide +kernel
abbrev rm_m_stands : Room := { frames := 5, cells := 0, slots := 0, locals := 120 }
def wp_m_stands (M : ST) (p1 : Int32) (p2 : Int32) (p3 : Int32) (p4 : Int32) (post : Int32 → ST → Prop) : Prop :=
  (p1 = 1 → (wp_m_isPart M p2 p3 (fun r2 M1 => bz r2 ∧ post r2 M1))) ∧ (¬ p1 = 1 → ((p1 = 2 → (wp_m_tree M (fun r4 M3 => (r4 < (p4.toInt64) → (post 0 M3)) ∧ (¬ r4 < (p4.toInt64) → (post 1 M3))))) ∧ (¬ p1 = 2 → ((p1 = 3 → (wp_m_isFew M p2 (fun r6 M5 => bz r6 ∧ post r6 M5))) ∧ (¬ p1 = 3 → ((p1 = 4 → (wp_m_isMany M p2 (fun r8 M7 => bz r8 ∧ post r8 M7))) ∧ (¬ p1 = 4 → ((p1 = 5 → (wp_m_isRing M p2 (fun r10 M9 => bz r10 ∧ post r10 M9))) ∧ (¬ p1 = 5 → (wp_m_isTwins M p2 p3 (fun r12 M11 => bz r12 ∧ post r12 M11)))))))))))
set_option maxHeartbeats 4000000 in
set_option maxRecDepth 100000 in
theorem lb_m_stands {κ : Cx} {g : Gx} {X : ST} (hκ : CF κ g RX10 cX10_stands wq_X10_stands 5 rm_m_stands) {post : Int32 → ST → Prop} (hR : RtmZ κ g 5 cX10_stands X post) {M : ST} {p1 : Int32} {p2 : Int32} {p3 : Int32} {p4 : Int32} (h : wp_m_stands M p1 p2 p3 p4 post) : Jw κ g 5 X M [(0, .ref (g.2.1 11)), (1, .int p1), (2, .int p2), (3, .int p3), (4, .int p4)] 0 [] := by
  unfold wp_m_stands at h
  refine j_iload_n (pc' := 1) hκ 1 rfl rfl dX10_stands_0 rfl ?_
  by_cases c0 : p1 = 1
  · replace h := h.1 c0
    refine j_tabEq (v := 1) (tgt := 36) hκ dX10_stands_1 c0 (by decide) (by decide) rfl (by decide) ?_
    refine j_aload_n (pc' := 37) hκ 0 rfl rfl dX10_stands_36 rfl ?_
    refine j_iload_n (pc' := 38) hκ 2 rfl rfl dX10_stands_37 rfl ?_
    refine j_iload_n (pc' := 39) hκ 3 rfl rfl dX10_stands_38 rfl ?_
    refine jm_callVi (pc' := 42) hκ (c_m_isPart (dg hκ) h) rfl rfl rfl (gV wm_43_0 wm_43_1 wm_43_2 wm_1_5 wm_43_3) hqV_X10_isPart ⟨Nat.le_of_ble_eq_true rfl, Nat.le_of_ble_eq_true rfl⟩ (wg_11 g _ _) rfl rfl rfl (Nat.le_of_ble_eq_true rfl) dX10_stands_39 rfl (fun r2 M1 h => ?_)
    exact hR _ _ _ _ dX10_stands_42 h.1 h.2
  replace h := h.2 c0
  by_cases c1 : p1 = 2
  · replace h := h.1 c1
    refine j_tabEq (v := 2) (tgt := 43) hκ dX10_stands_1 c1 (by decide) (by decide) rfl (by decide) ?_
    refine j_aload_n (pc' := 44) hκ 0 rfl rfl dX10_stands_43 rfl ?_
    refine jm_callVl (pc' := 47) hκ (c_m_tree (dg hκ) h) rfl rfl rfl (gV wm_36_6 wm_36_7 wm_36_8 wm_1_5 wm_36_9) hqV_X10_tree ⟨Nat.le_of_ble_eq_true rfl, Nat.le_of_ble_eq_true rfl⟩ (wg_11 g _ _) rfl rfl rfl (Nat.le_of_ble_eq_true rfl) dX10_stands_44 rfl (fun r4 M3 h => ?_)
    refine j_iload (pc' := 49) hκ 4 rfl dX10_stands_47 rfl ?_
    refine j_i2l (pc' := 50) hκ dX10_stands_49 rfl ?_
    refine j_lc_lt (tgt := 58) (pc1 := 51) (pc' := 54) hκ dX10_stands_50 rfl dX10_stands_51 (by decide) rfl (fun c => ?_) (fun c => ?_)
    · replace h := h.1 c
      refine j_iconst (pc' := 59) (v := 0) hκ (by decide) dX10_stands_58 rfl ?_
      exact hR _ _ _ _ dX10_stands_59 (Or.inl rfl) h
    · replace h := h.2 c
      refine j_iconst (pc' := 55) (v := 1) hκ (by decide) dX10_stands_54 rfl ?_
      refine j_goto (pc' := 59) hκ (by decide) dX10_stands_55 ?_
      exact hR _ _ _ _ dX10_stands_59 (Or.inr rfl) h
  replace h := h.2 c1
  by_cases c2 : p1 = 3
  · replace h := h.1 c2
    refine j_tabEq (v := 3) (tgt := 60) hκ dX10_stands_1 c2 (by decide) (by decide) rfl (by decide) ?_
    refine j_aload_n (pc' := 61) hκ 0 rfl rfl dX10_stands_60 rfl ?_
    refine j_iload_n (pc' := 62) hκ 2 rfl rfl dX10_stands_61 rfl ?_
    refine jm_callVi (pc' := 65) hκ (c_m_isFew (dg hκ) h) rfl rfl rfl (gV wm_43_4 wm_43_5 wm_43_6 wm_1_5 wm_43_7) hqV_X10_isFew ⟨Nat.le_of_ble_eq_true rfl, Nat.le_of_ble_eq_true rfl⟩ (wg_11 g _ _) rfl rfl rfl (Nat.le_of_ble_eq_true rfl) dX10_stands_62 rfl (fun r6 M5 h => ?_)
    exact hR _ _ _ _ dX10_stands_65 h.1 h.2
  replace h := h.2 c2
  by_cases c3 : p1 = 4
  · replace h := h.1 c3
    refine j_tabEq (v := 4) (tgt := 66) hκ dX10_stands_1 c3 (by decide) (by decide) rfl (by decide) ?_
    refine j_aload_n (pc' := 67) hκ 0 rfl rfl dX10_stands_66 rfl ?_
    refine j_iload_n (pc' := 68) hκ 2 rfl rfl dX10_stands_67 rfl ?_
    refine jm_callVi (pc' := 71) hκ (c_m_isMany (dg hκ) h) rfl rfl rfl (gV wm_43_8 wm_43_9 wm_43_10 wm_1_5 wm_43_11) hqV_X10_isMany ⟨Nat.le_of_ble_eq_true rfl, Nat.le_of_ble_eq_true rfl⟩ (wg_11 g _ _) rfl rfl rfl (Nat.le_of_ble_eq_true rfl) dX10_stands_68 rfl (fun r8 M7 h => ?_)
    exact hR _ _ _ _ dX10_stands_71 h.1 h.2
  replace h := h.2 c3
  by_cases c4 : p1 = 5
  · replace h := h.1 c4
    refine j_tabEq (v := 5) (tgt := 72) hκ dX10_stands_1 c4 (by decide) (by decide) rfl (by decide) ?_
    refine j_aload_n (pc' := 73) hκ 0 rfl rfl dX10_stands_72 rfl ?_
    refine j_iload_n (pc' := 74) hκ 2 rfl rfl dX10_stands_73 rfl ?_
    refine jm_callVi (pc' := 77) hκ (c_m_isRing (dg hκ) h) rfl rfl rfl (gV wm_43_16 wm_43_17 wm_43_18 wm_1_5 wm_43_19) hqV_X10_isRing ⟨Nat.le_of_ble_eq_true rfl, Nat.le_of_ble_eq_true rfl⟩ (wg_11 g _ _) rfl rfl rfl (Nat.le_of_ble_eq_true rfl) dX10_stands_74 rfl (fun r10 M9 h => ?_)
    exact hR _ _ _ _ dX10_stands_77 h.1 h.2
  replace h := h.2 c4
  have u0 : ¬ (p1).toInt = 1 := fun e => c0 (Int32.toInt_inj.mp (e.trans (by decide)))
  have u1 : ¬ (p1).toInt = 2 := fun e => c1 (Int32.toInt_inj.mp (e.trans (by decide)))
  have u2 : ¬ (p1).toInt = 3 := fun e => c2 (Int32.toInt_inj.mp (e.trans (by decide)))
  have u3 : ¬ (p1).toInt = 4 := fun e => c3 (Int32.toInt_inj.mp (e.trans (by decide)))
  have u4 : ¬ (p1).toInt = 5 := fun e => c4 (Int32.toInt_inj.mp (e.trans (by decide)))
  refine j_tabOut (tgt := 78) hκ dX10_stands_1 (by omega) (by decide) ?_
  refine j_aload_n (pc' := 79) hκ 0 rfl rfl dX10_stands_78 rfl ?_
  refine j_iload_n (pc' := 80) hκ 2 rfl rfl dX10_stands_79 rfl ?_
  refine j_iload_n (pc' := 81) hκ 3 rfl rfl dX10_stands_80 rfl ?_
  refine jm_callVi (pc' := 84) hκ (c_m_isTwins (dg hκ) h) rfl rfl rfl (gV wm_42_13 wm_42_14 wm_42_15 wm_1_5 wm_42_16) hqV_X10_isTwins ⟨Nat.le_of_ble_eq_true rfl, Nat.le_of_ble_eq_true rfl⟩ (wg_11 g _ _) rfl rfl rfl (Nat.le_of_ble_eq_true rfl) dX10_stands_81 rfl (fun r12 M11 h => ?_)
  exact hR _ _ _ _ dX10_stands_84 h.1 h.2
theorem c_m_stands {g : Gx} (hg : Dg g) {X M : ST} {p1 : Int32} {p2 : Int32} {p3 : Int32} {p4 : Int32} {post : Int32 → ST → Prop} (h : wp_m_stands M p1 p2 p3 p4 post) (l : Launch) : Met l yX10_stands wq_X10_stands rm_m_stands (va_Pc [.ref (g.2.1 11), .int p1, .int p2, .int p3, .int p4] (PU g X M)) (va_Qi post (fun Y t => va_P g.1 vwCl (ww g X Y) t.heap) (wA g)) 0 0 (wA g) :=
  met_mz hg (by decide) rfl [.ref (g.2.1 11), .int p1, .int p2, .int p3, .int p4] rfl (Nat.le_of_ble_eq_true rfl) (fun κ hκ hR => lb_m_stands hκ hR h) l
