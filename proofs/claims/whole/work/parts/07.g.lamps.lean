/-! PURE: LAMPS that are read -/
/-- what ILamp says, at its K -/
def LampK (n K : Nat) (X M : ST) : Prop := K ≤ 12 ∧ x_Lamps_count X = nI K ∧ m_lamps M = nI K ∧ (∀ l, l < K → x_Lamps_crossings X l = m_crossing M l ∧ x_Lamps_kinds X l = m_kind M l ∧ x_Lamps_prices X l = m_price M l ∧ (∃ c, c < 40 ∧ m_crossing M l = nI c) ∧ (∃ k, k ≤ 4 ∧ m_kind M l = nI k) ∧ (m_kind M l = 1 → x_Lamps_others X l = m_other M l ∧ ∃ o, o < K ∧ m_other M l = nI o ∧ o ≠ l) ∧ (-(100000 + 1000 * (n : Int)) ≤ (m_price M l).toInt ∧ (m_price M l).toInt ≤ 100000 + 1000 * (n : Int)) ∧ bz (m_isOut M l)) ∧ (∀ l, K ≤ l → l < 12 → x_Lamps_prices X l = 0) ∧ ∀ l, l < 32 → bt (x_Lamps_live X) l = decide (l < K ∧ m_isOut M l = 0)
theorem ILamp.k {n : Nat} {X M : ST} (h : ILamp n X M) : ∃ K, LampK n K X M := h
/-- not OUT -/
def lv (M : ST) (l : Nat) : Bool := decide (m_isOut M l = 0)
theorem isLamp_ok {n K : Nat} {X M : ST} (h : LampK n K X M) {p : Int32} {post : Int32 → ST → Prop} (h0 : (p < 0 ∨ nI K ≤ p) → post 0 X) (h1 : ∀ l, l < K → p = nI l → post 1 X) : wp_Lamps_isLamp X p post := by
  unfold wp_Lamps_isLamp
  rw [h.2.1]
  refine rg h0 (fun c0 c1 => ?_)
  obtain ⟨j, hj, e, -, -⟩ := vp_of h.1 (by decide) c0 c1
  exact h1 j hj e
theorem misLamp_ok {n K : Nat} {X M : ST} (h : LampK n K X M) {p : Int32} {post : Int32 → ST → Prop} (h0 : (p < 0 ∨ nI K ≤ p) → post 0 M) (h1 : ∀ l, l < K → p = nI l → post 1 M) : wp_m_isLamp M p post := by
  unfold wp_m_isLamp
  rw [h.2.2.1]
  refine rg h0 (fun c0 c1 => ?_)
  obtain ⟨j, hj, e, -, -⟩ := vp_of h.1 (by decide) c0 c1
  exact h1 j hj e
theorem isLive_ok {n K : Nat} {X M : ST} (h : LampK n K X M) {p : Int32} {post : Int32 → ST → Prop} (h0 : (p < 0 ∨ nI K ≤ p) → post 0 X) (h1 : ∀ l, l < K → p = nI l → m_isOut M l = 0 → post 1 X) (h2 : ∀ l, l < K → p = nI l → ¬ m_isOut M l = 0 → post 0 X) : wp_Lamps_isLive X p post := by
  refine isLamp_ok h (fun hb => no2 (h0 hb)) (fun l hl e => ya2 ?_)
  subst e
  have hlK := h.1
  have hb := h.2.2.2.2.2 l (by omega)
  refine isIn_ok (by omega) (fun c => ya2 (h1 l hl rfl ?_)) (fun c => no2 (h2 l hl rfl ?_))
  · rw [hb] at c; exact (of_decide_eq_true c).2
  · rw [hb] at c; exact fun q => (of_decide_eq_false c) ⟨hl, q⟩
theorem live_hi {n K : Nat} {X M : ST} (h : LampK n K X M) (i : Nat) (hi : 12 ≤ i) : bt (x_Lamps_live X) i = false := by
  rcases Nat.lt_or_ge i 32 with q | q
  · rw [h.2.2.2.2.2 i q]
    exact decide_eq_false (fun c => by have := h.1; omega)
  · exact b_big q
theorem liveCount_ok {n K : Nat} {X M : ST} (h : LampK n K X M) {post : Int32 → ST → Prop} (hp : post (nI (cn (lv M) K)) X) : wp_Lamps_liveCount X post := by
  refine bitCount_ok (live_hi h) ?_
  have e1 : cn (bt (x_Lamps_live X)) 12 = cn (bt (x_Lamps_live X)) K := cn_false 12 (fun i hi => by
    rcases Nat.lt_or_ge i 32 with q | q
    · rw [h.2.2.2.2.2 i q]; exact decide_eq_false (fun c => by omega)
    · exact b_big q) h.1
  have e2 : cn (bt (x_Lamps_live X)) K = cn (lv M) K := cn_congr K (fun i hi => by
    rw [h.2.2.2.2.2 i (by have := h.1; omega)]
    unfold lv
    simp [hi])
  rw [e1, e2]
  exact hp
theorem nI_zero (i : Nat) : nI i + 0 = nI i := by
  rw [show (0 : Int32) = nI 0 from rfl, nI_add]; rfl
theorem lit_ok {n K : Nat} {X M : ST} (h : LampK n K X M) {post : Int32 → ST → Prop} (hp : post (nI (cn (lv M) K)) M) : wp_m_lit M post := by
  have hK := h.1
  have go : ∀ (m i : Nat), i + m = K → wp_m_lit_4 (fun M3 v4 => post v4 M3) post (m + 1) M (nI (cn (lv M) i)) (nI i) := by
    intro m
    induction m with
    | zero =>
      intro i hi
      have : i = K := by omega
      subst this
      exact ⟨fun _ => hp, fun c => absurd (by rw [h.2.2.1]; exact nI_le (Nat.le_refl _) (by omega)) c⟩
    | succ m ih =>
      intro i hi
      refine ⟨fun c => absurd (by rw [h.2.2.1] at c; exact c) (nI_ge (by omega) (by omega)), fun _ => ⟨vp_in_nI (by omega) (by decide), ?_⟩⟩
      rw [nI_clamp (by omega)]
      refine bh (fun c => nm ?_) (fun c => nm ?_)
      · rw [nI_1, nI_1]
        have e : cn (lv M) i + 1 = cn (lv M) (i + 1) := by
          show _ = cn (lv M) i + (if lv M i then 1 else 0)
          unfold lv at *
          rw [if_pos (decide_eq_true c)]
        rw [e]
        exact ih (i + 1) (by omega)
      · rw [nI_zero, nI_1]
        have e : cn (lv M) i = cn (lv M) (i + 1) := by
          show _ = cn (lv M) i + (if lv M i then 1 else 0)
          unfold lv at *
          rw [if_neg (by simp [c])]
          rfl
        rw [e]
        exact ih (i + 1) (by omega)
  exact ⟨_, go K 0 (by omega)⟩
theorem ls_of (n : Nat) (X M : ST) (a1 a2 : Int32) (_ : n < 512) (h : Inv n X M) : wp_LR_of X a1 a2 (fun r X1 => wp_m_of M a1 a2 (fun q M1 => r = q ∧ Inv (n + 1) X1 M1)) := by
  have hu := h.up
  obtain ⟨d, h1, h2, h3, h4, h5, h6, h7⟩ := h
  obtain ⟨K, hk⟩ := h4.k
  refine isLamp_ok hk (fun hb => no1 (misLamp_ok hk (fun _ => no2 ⟨rfl, hu⟩) (fun l hl e => ?_))) (fun l hl e => ya1 ?_)
  · subst e
    exact absurd hb (fun q => q.elim (nI_pos (by have := hk.1; omega)) (nI_ge hl (by have := hk.1; omega)))
  · subst e
    obtain ⟨o1, o2, o3, o4, o5, o6, o7, o8⟩ := hk.2.2.2.1 l hl
    have hl12 : l < 12 := Nat.lt_of_lt_of_le hl hk.1
    have hK12 : K ≤ 12 := hk.1
    have hv : vp_in (nI l) 12 := vp_in_nI hl12 (by decide)
    have hc : (nI l).toNatClampNeg = l := nI_clamp (by omega)
    have hm : ∀ {post : Int32 → ST → Prop}, post 1 M → wp_m_isLamp M (nI l) post := fun hp => misLamp_ok hk (fun q => q.elim (fun q => absurd q (nI_pos (by omega))) (fun q => absurd q (nI_ge hl (by omega)))) (fun _ _ _ => hp)
    by_cases e0 : a2 = 0
    · subst e0
      exact bh (fun _ => ⟨hv, hm (ya2 (bh (fun k => absurd k (by decide)) (fun _ => bh (fun _ => bn (fun k => absurd rfl k) (fun _ => ⟨hv, by rw [hc]; exact o1, hu⟩)) (fun k => absurd (by decide) k))))⟩) (fun k => absurd rfl k)
    · refine bh (fun k => absurd k e0) (fun _ => ?_)
      by_cases e1 : a2 = 1
      · subst e1
        exact bh (fun _ => ⟨hv, hm (ya2 (bh (fun k => absurd k (by decide)) (fun _ => bh (fun _ => bn (fun _ => bn (fun k => absurd rfl k) (fun _ => ⟨hv, by rw [hc]; exact o2, hu⟩)) (fun k => absurd k (by decide))) (fun k => absurd (by decide) k))))⟩) (fun k => absurd rfl k)
      · refine bh (fun k => absurd k e1) (fun _ => ?_)
        by_cases e2 : a2 = 2
        · subst e2
          refine bh (fun _ => ⟨hv, ?_⟩) (fun k => absurd rfl k)
          rw [hc, o2]
          exact bn (fun z => hm (ya2 (bh (fun k => absurd k (by decide)) (fun _ => bh (fun _ => bn (fun _ => bn (fun _ => bn (fun k => absurd rfl k) (fun _ => ⟨hv, by rw [hc]; exact bn (fun _ => ⟨rfl, hu⟩) (fun k => absurd k z)⟩)) (fun k => absurd k (by decide))) (fun k => absurd k (by decide))) (fun k => absurd (by decide) k))))) (fun z => hm (ya2 (bh (fun k => absurd k (by decide)) (fun _ => bh (fun _ => bn (fun _ => bn (fun _ => bn (fun k => absurd rfl k) (fun _ => ⟨hv, by rw [hc]; exact bn (fun k => absurd z k) (fun _ => ⟨rfl, hu⟩)⟩)) (fun k => absurd k (by decide))) (fun k => absurd k (by decide))) (fun k => absurd (by decide) k)))))
        · refine bh (fun k => absurd k e2) (fun _ => ?_)
          by_cases e3 : a2 = 3
          · subst e3
            refine bh (fun _ => isLive_ok hk (fun q => absurd q (fun q => q.elim (nI_pos (by omega)) (nI_ge hl (by omega)))) (fun l' hl' el z => ya2 ?_) (fun l' hl' el z => no2 ?_)) (fun k => absurd rfl k)
            · have : l = l' := (nI_eq (by omega) (by have := hk.1; omega)).mp el
              subst this
              exact hm (ya2 (bh (fun k => absurd k (by decide)) (fun _ => bh (fun _ => bn (fun _ => bn (fun _ => bn (fun _ => bn (fun k => absurd rfl k) (fun _ => ⟨hv, by rw [hc]; exact bh (fun _ => ⟨rfl, hu⟩) (fun k => absurd z k)⟩)) (fun k => absurd k (by decide))) (fun k => absurd k (by decide))) (fun k => absurd k (by decide))) (fun k => absurd (by decide) k))))
            · have : l = l' := (nI_eq (by omega) (by have := hk.1; omega)).mp el
              subst this
              exact hm (ya2 (bh (fun k => absurd k (by decide)) (fun _ => bh (fun _ => bn (fun _ => bn (fun _ => bn (fun _ => bn (fun k => absurd rfl k) (fun _ => ⟨hv, by rw [hc]; exact bh (fun k => absurd k z) (fun _ => ⟨rfl, hu⟩)⟩)) (fun k => absurd k (by decide))) (fun k => absurd k (by decide))) (fun k => absurd k (by decide))) (fun k => absurd (by decide) k))))
          · refine bh (fun k => absurd k e3) (fun _ => ?_)
            by_cases e4 : a2 = 4
            · subst e4
              exact bh (fun _ => ⟨hv, hm (ya2 (bh (fun k => absurd k (by decide)) (fun _ => bh (fun _ => bn (fun _ => bn (fun _ => bn (fun _ => bn (fun _ => ⟨hv, by rw [hc]; exact o3, hu⟩) (fun k => absurd k (by decide))) (fun k => absurd k (by decide))) (fun k => absurd k (by decide))) (fun k => absurd k (by decide))) (fun k => absurd (by decide) k))))⟩) (fun k => absurd rfl k)
            · refine bh (fun k => absurd k e4) (fun _ => hm (ya2 (bh (fun _ => ⟨rfl, hu⟩) (fun k0 => bh (fun k4 => ?_) (fun _ => ⟨rfl, hu⟩)))))
              exfalso
              rw [Int32.lt_iff_toInt_lt] at k0
              rw [Int32.le_iff_toInt_le] at k4
              have z0 : ¬ a2.toInt = 0 := fun e => e0 (Int32.toInt_inj.mp e)
              have z1 : ¬ a2.toInt = 1 := fun e => e1 (Int32.toInt_inj.mp e)
              have z2 : ¬ a2.toInt = 2 := fun e => e2 (Int32.toInt_inj.mp e)
              have z3 : ¬ a2.toInt = 3 := fun e => e3 (Int32.toInt_inj.mp e)
              have z4 : ¬ a2.toInt = 4 := fun e => e4 (Int32.toInt_inj.mp e)
              have y0 : (0 : Int32).toInt = 0 := rfl
              have y2 : (4 : Int32).toInt = 4 := rfl
              omega
