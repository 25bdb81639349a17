/-! PURE: LAMPS that are raised, darkened; THE TOLD ROUND that is told, turned -/
theorem inj_cn (p : Nat → Bool) : ∀ (K T : Nat) (f : Nat → Nat), (∀ i, i < T → f i < K ∧ p (f i) = true) → (∀ i j, i < T → j < T → f i = f j → i = j) → T ≤ cn p K
  | 0, T, f, h, _ => by
    rcases Nat.eq_zero_or_pos T with e | e
    · omega
    · exact absurd (h 0 e).1 (by omega)
  | K + 1, T, f, h, hi => by
    show T ≤ cn p K + (if p K then 1 else 0)
    by_cases hit : ∃ i, i < T ∧ f i = K
    · obtain ⟨i0, h0, e0⟩ := hit
      have pk : p K = true := by rw [← e0]; exact (h i0 h0).2
      rw [pk, if_pos rfl]
      have := inj_cn p K (T - 1) (fun i => if i = i0 then f (T - 1) else f i) (fun i hi' => by
        have q : ∀ j, j < T → j ≠ i0 → f j < K ∧ p (f j) = true := fun j hj hne => ⟨by
          have z1 := (h j hj).1
          have z2 : f j ≠ K := fun z => hne (hi j i0 hj h0 (z.trans e0.symm))
          omega, (h j hj).2⟩
        by_cases e : i = i0
        · simp only [if_pos e]
          exact q (T - 1) (by omega) (by omega)
        · simp only [if_neg e]
          exact q i (by omega) e) (fun i j hi' hj' e => by
        by_cases e1 : i = i0
        · by_cases e2 : j = i0
          · omega
          · simp only [if_pos e1, if_neg e2] at e
            have := hi (T - 1) j (by omega) (by omega) e
            omega
        · by_cases e2 : j = i0
          · simp only [if_neg e1, if_pos e2] at e
            have := hi i (T - 1) (by omega) (by omega) e
            omega
          · simp only [if_neg e1, if_neg e2] at e
            exact hi i j (by omega) (by omega) e)
      omega
    · have := inj_cn p K T f (fun i hi' => ⟨by
        have z1 := (h i hi').1
        have z2 : f i ≠ K := fun z => hit ⟨i, hi', z⟩
        omega, (h i hi').2⟩) hi
      omega
def TK (K T : Nat) (r : Nat → Nat) (X M : ST) : Prop := T ≤ 12 ∧ x_Told_count X = nI T ∧ m_told M = nI T ∧ (∀ i, i < T → x_Told_order X i = nI (r i) ∧ m_round M i = nI (r i) ∧ r i < K ∧ m_isOut M (r i) = 0) ∧ ∀ i j, i < T → j < T → r i = r j → i = j
theorem ITold.tk {K : Nat} {X M : ST} (h : ITold X M) (hm : m_lamps M = nI K) (hK : K ≤ 12) : ∃ T r, TK K T r X M := by
  obtain ⟨T, t1, t2, t3, t4, t5⟩ := h
  have q : ∀ i, i < T → m_round M i = nI (m_round M i).toNatClampNeg ∧ (m_round M i).toNatClampNeg < K ∧ m_isOut M (m_round M i).toNatClampNeg = 0 := by
    intro i hi
    obtain ⟨-, o, e, ⟨K', k1, k2, k3⟩, k4⟩ := t4 i hi
    have : K' = K := (nI_eq (by omega) (by omega)).mp (k2.symm.trans hm)
    subst this
    rw [← e, nI_clamp (by omega)]
    exact ⟨rfl, k3, k4⟩
  refine ⟨T, fun i => (m_round M i).toNatClampNeg, t1, t2, t3, fun i hi => ⟨(t4 i hi).1.trans (q i hi).1, q i hi⟩, fun i j hi hj e => t5 i j hi hj ?_⟩
  rw [(q i hi).1, (q j hj).1]
  exact congrArg nI e
theorem TK.it {K T : Nat} {r : Nat → Nat} {X M : ST} (h : TK K T r X M) (hm : m_lamps M = nI K) (hK : K ≤ 12) : ITold X M := by
  obtain ⟨t1, t2, t3, t4, t5⟩ := h
  refine ⟨T, t1, t2, t3, fun i hi => ?_, fun i j hi hj e => t5 i j hi hj ?_⟩
  · obtain ⟨a, b, c, e⟩ := t4 i hi
    exact ⟨a.trans b.symm, r i, b.symm, ⟨K, hK, hm, c⟩, e⟩
  · obtain ⟨a, b, c, _⟩ := t4 i hi
    obtain ⟨a', b', c', _⟩ := t4 j hj
    rw [b, b'] at e
    exact (nI_eq (by omega) (by omega)).mp e
theorem TK.room {K T : Nat} {r : Nat → Nat} {X M : ST} (h : TK K T r X M) : T ≤ cn (lv M) K := inj_cn _ K T r (fun i hi => ⟨(h.2.2.2.1 i hi).2.2.1, decide_eq_true (h.2.2.2.1 i hi).2.2.2⟩) h.2.2.2.2
/-- a LAMP that isn't OUT and not yet told leaves room -/
theorem TK.more {K T l : Nat} {r : Nat → Nat} {X M : ST} (h : TK K T r X M) (hl : l < K) (hv : m_isOut M l = 0) (hn : ∀ i, i < T → r i ≠ l) : T + 1 ≤ cn (lv M) K := by
  refine inj_cn _ K (T + 1) (fun i => if i = T then l else r i) (fun i hi => ?_) (fun i j hi hj e => ?_)
  · by_cases e : i = T
    · simp only [if_pos e]; exact ⟨hl, decide_eq_true hv⟩
    · simp only [if_neg e]; exact ⟨(h.2.2.2.1 i (by omega)).2.2.1, decide_eq_true (h.2.2.2.1 i (by omega)).2.2.2⟩
  · by_cases e1 : i = T
    · by_cases e2 : j = T
      · omega
      · simp only [if_pos e1, if_neg e2] at e
        exact absurd e.symm (hn j (by omega))
    · by_cases e2 : j = T
      · simp only [if_neg e1, if_pos e2] at e
        exact absurd e (hn i (by omega))
      · simp only [if_neg e1, if_neg e2] at e
        exact h.2.2.2.2 i j (by omega) (by omega) e
theorem TK.full {K T l : Nat} {r : Nat → Nat} {X M : ST} (h : TK K T r X M) (hT : T = cn (lv M) K) (hl : l < K) (hv : m_isOut M l = 0) : ∃ i, i < T ∧ r i = l := by
  rcases Classical.em (∃ i, i < T ∧ r i = l) with q | q
  · exact q
  · have := h.more hl hv (fun i hi e => q ⟨i, hi, e⟩)
    omega
theorem holds_ok {K T : Nat} {r : Nat → Nat} {X M : ST} (h : TK K T r X M) {l : Nat} (hl : l < 12) (hK : K ≤ 12) {post : Int32 → ST → Prop} (h1 : (∃ i, i < T ∧ r i = l) → post 1 X) (h0 : (∀ i, i < T → r i ≠ l) → post 0 X) : wp_Told_holds X (nI l) post := by
  obtain ⟨t1, t2, t3, t4, t5⟩ := h
  have go : ∀ (m i : Nat), i + m = T → (∀ i', i' < i → r i' ≠ l) → wp_Told_holds_2 (fun X1 => post 1 X1) (fun X2 => post 0 X2) post (m + 1) X (nI l) (nI i) := by
    intro m
    induction m with
    | zero =>
      intro i hi hn
      exact yes (by rw [t2]; exact nI_le (by omega) (by omega)) (h0 (fun i' hi' => hn i' (by omega)))
    | succ m ih =>
      intro i hi hn
      refine nay (by rw [t2]; exact nI_ge (by omega) (by omega)) ⟨vp_in_nI (by omega) (by decide), ?_⟩
      have q := t4 i (by omega)
      rw [nI_clamp (by omega), q.1, nI_eq (by omega) (by omega), nI_1]
      refine bn (fun c => ih (i + 1) (by omega) (fun i' hi' => ?_)) (fun c => h1 ⟨i, by omega, c⟩)
      by_cases e : i' = i
      · subst e; exact c
      · exact hn i' (by omega)
  exact ⟨_, go T 0 (by omega) (fun i hi => absurd hi (by omega))⟩
/-- the place of a LAMP in a row: -1, or the last that holds it -/
theorem placeOf_ok {M : ST} {k0 T l : Nat} {r : Nat → Nat} (hT : T ≤ 12) (hr : ∀ i, i < T → M.2.2.1 k0 i = nI (r i) ∧ r i < 2 ^ 31) (hl : l < 2 ^ 31) {post : Int32 → ST → Prop} (h0 : (∀ i, i < T → r i ≠ l) → post (-1) M) (h1 : ∀ i, i < T → r i = l → (∀ i', i' < T → i < i' → r i' ≠ l) → post (nI i) M) : wp_m_placeOf M k0 12 (nI T) (nI l) post := by
  have go : ∀ (m i : Nat) (p : Int32), i + m = T → ((p = -1 ∧ ∀ i', i' < i → r i' ≠ l) ∨ (∃ q, q < i ∧ p = nI q ∧ r q = l ∧ ∀ i', i' < i → q < i' → r i' ≠ l)) → wp_m_placeOf_5 k0 12 (fun M1 v2 => post v2 M1) post (m + 1) M (nI T) (nI l) p (nI i) := by
    intro m
    induction m with
    | zero =>
      intro i p hi hp
      have : i = T := by omega
      subst this
      refine yes (nI_le (Nat.le_refl _) (by omega)) ?_
      rcases hp with ⟨rfl, q⟩ | ⟨q, q1, rfl, q2, q3⟩
      · exact h0 q
      · exact h1 q q1 q2 q3
    | succ m ih =>
      intro i p hi hp
      refine nay (nI_ge (by omega) (by omega)) ⟨vp_in_nI (by omega) (by decide), ?_⟩
      have q := hr i (by omega)
      rw [nI_clamp (by omega), q.1, nI_eq q.2 hl, nI_1]
      refine bn (fun c => ih (i + 1) p (by omega) (hp.imp (fun ⟨z1, z2⟩ => ⟨z1, fun i' hi' => ?_⟩) (fun ⟨q, q1, q2, q3, q4⟩ => ⟨q, by omega, q2, q3, fun i' hi' hq => ?_⟩))) (fun c => ih (i + 1) (nI i) (by omega) (Or.inr ⟨i, by omega, rfl, c, fun i' hi' hq => absurd hi' (by omega)⟩))
      · by_cases e : i' = i
        · subst e; exact c
        · exact z2 i' (by omega)
      · by_cases e : i' = i
        · subst e; exact c
        · exact q4 i' (by omega) hq
  exact ⟨_, go T 0 (-1) (by omega) (Or.inl ⟨rfl, fun i hi => absurd hi (by omega)⟩)⟩
theorem lv_cn (M : ST) (K : Nat) : cn (fun i => decide (m_isOut M i = 0)) K = cn (lv M) K := rfl
theorem ls_put (n : Nat) (X M : ST) (a1 : Int32) (_ : n < 512) (h : Inv n X M) : wp_LR_put X a1 (fun r X1 => wp_m_put M a1 (fun q M1 => r = q ∧ Inv (n + 1) X1 M1)) := by
  have hu := h.up
  obtain ⟨d, hd⟩ := h
  obtain ⟨K, hk, hm⟩ := hd.ml
  obtain ⟨h1, h2, h3, h4, h5, h6, h7⟩ := hd
  have hK := hm.1
  obtain ⟨T, r, ht⟩ := h6.tk hm.2.1 hK
  refine isLamp_ok hk (fun hb => no1 (misLamp_ok hk (fun _ => no1 ⟨rfl, hu⟩) (fun l hl e => ?_))) (fun l hl e => ya1 ?_)
  · subst e
    exact absurd hb (fun q => q.elim (nI_pos (by omega)) (nI_ge hl (by omega)))
  · subst e
    have hv : vp_in (nI l) 12 := vp_in_nI (by omega) (by decide)
    have hc : (nI l).toNatClampNeg = l := nI_clamp (by omega)
    have hml : ∀ {post : Int32 → ST → Prop}, post 1 M → wp_m_isLamp M (nI l) post := fun hp => misLamp_ok hk (fun q => q.elim (fun q => absurd q (nI_pos (by omega))) (fun q => absurd q (nI_ge hl (by omega)))) (fun _ _ _ => hp)
    refine isLive_ok hk (fun q => absurd q (fun q => q.elim (nI_pos (by omega)) (nI_ge hl (by omega)))) (fun l' hl' e lv => ya2 ?_) (fun l' hl' e lv => no2 (hml (ya1 ⟨hv, ?_⟩)))
    · have : l = l' := (nI_eq (by omega) (by omega)).mp e
      subst this
      have mp : ∀ {P : Int32 → ST → Prop}, ((∀ i, i < T → r i ≠ l) → P (-1) M) → ((∃ i, i < T ∧ r i = l) → ∀ i, i < T → P (nI i) M) → wp_m_placeOf M 60 12 (m_told M) (nI l) P := by
        intro P p0 p1
        rw [ht.2.2.1]
        exact placeOf_ok ht.1 (fun i hi => ⟨(ht.2.2.2.1 i hi).2.1, by have := (ht.2.2.2.1 i hi).2.2.1; omega⟩) (by omega) p0 (fun i hi e _ => p1 ⟨i, hi, e⟩ i hi)
      refine holds_ok ht (by omega) hK (fun q => ya2 (hml (ya1 ⟨hv, ?_⟩))) (fun q => no2 ?_)
      · rw [hc]
        have hT := ht.1
        exact yes' lv (mp (fun z => absurd q (fun ⟨i, hi, e⟩ => z i hi e)) (fun _ i hi => nay (nI_pos (by omega)) ⟨rfl, hu⟩))
      · have hroom := ht.more hl lv q
        have hle := cn_le (fun i => decide (m_isOut M i = 0)) K
        have hle2 := lv_cn M K
        have hT : T < 12 := by omega
        have hvT : vp_in (nI T) 12 := vp_in_nI hT (by decide)
        have cT : (nI T).toNatClampNeg = T := nI_clamp (by omega)
        obtain ⟨t1, t2, t3, t4, t5⟩ := ht
        unfold wp_Told_append
        rw [t2]
        refine nay (nI_ge (b := 12) hT (by decide)) ⟨hvT, nm (nm (hml (ya1 ⟨hv, ?_⟩)))⟩
        rw [hc]
        refine yes' lv (mp (fun _ => yes (by decide) ?_) (fun z => absurd z (fun ⟨i, hi, e⟩ => absurd e (q i hi))))
        rw [t3, cT]
        refine ⟨hvT, nm (nm ⟨?_, d, (h1.fr rfl rfl rfl rfl rfl rfl rfl rfl rfl rfl), (h2.fr rfl rfl rfl rfl rfl rfl), (h3.fr rfl (ways_sA (by decide) _ _) rfl rfl rfl rfl rfl rfl), (h4.up.fr rfl rfl rfl rfl rfl rfl rfl rfl rfl rfl rfl rfl), (h5.fr rfl (gaps_sA (by decide) _ _) rfl rfl rfl rfl rfl rfl rfl), ?_, (h7.fr rfl rfl rfl rfl rfl rfl rfl rfl)⟩)⟩
        · show x_Told_count X + 1 = m_told M + 1
          rw [t2, t3]
        · refine TK.it (K := K) (T := T + 1) (r := fun i => if i = T then l else r i) ⟨hT, ?_, ?_, fun i hi => ?_, fun i j hi hj e => ?_⟩ hm.2.1 hK
          · show x_Told_count X + 1 = _
            rw [t2, nI_1]
          · show m_told M + 1 = _
            rw [t3, nI_1]
          · show upd (x_Told_order X) T (nI l) i = _ ∧ upd (m_round M) T (nI l) i = _ ∧ _ ∧ m_isOut M _ = 0
            by_cases e : i = T
            · subst e
              simp only [pk_us, if_pos]
              exact ⟨trivial, trivial, hl, lv⟩
            · simp only [pk_un e, if_neg e]
              exact t4 i (by omega)
          · by_cases e1 : i = T
            · by_cases e2 : j = T
              · omega
              · simp only [if_pos e1, if_neg e2] at e
                exact absurd e.symm (q j (by omega))
            · by_cases e2 : j = T
              · simp only [if_neg e1, if_pos e2] at e
                exact absurd e (q i (by omega))
              · simp only [if_neg e1, if_neg e2] at e
                exact t5 i j (by omega) (by omega) e
    · have : l = l' := (nI_eq (by omega) (by omega)).mp e
      subst this
      rw [hc]
      exact nay' lv ⟨rfl, hu⟩
