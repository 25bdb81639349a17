theorem afterLamps {n : Nat} {X M : ST} {d : Nat → Nat → Nat} (h1 : ILane X M) (h2 : IRow X M) (h3 : IWay d X M) (h4 : ILamp n X M) (h7 : IProof X M) : Inv (n + 1) (xs_Told_count (xs_Lamps_surveyed X 0) 0) (ms_told M 0) :=
  ⟨d, (h1.fr rfl rfl rfl rfl rfl rfl rfl rfl rfl rfl), (h2.fr rfl rfl rfl rfl rfl rfl), (h3.fr rfl rfl rfl rfl rfl rfl rfl rfl), (h4.up.fr rfl rfl rfl rfl rfl rfl rfl rfl rfl rfl rfl rfl), ⟨Or.inl rfl, fun q => absurd rfl q⟩, ⟨0, by decide, rfl, rfl, fun i hi => absurd hi (by omega), fun i j hi => absurd hi (by omega)⟩, (h7.fr rfl rfl rfl rfl rfl rfl rfl rfl)⟩
theorem ls_dark (n : Nat) (X M : ST) (a1 : Int32) (z2 : Int32) (_ : n < 512) (hz : bz z2) (h : Inv n X M) : wp_LR_dark X a1 z2 (fun r X1 => wp_m_dark M a1 z2 (fun q M1 => r = q ∧ Inv (n + 1) X1 M1)) := by
  have hu := h.up
  obtain ⟨d, hd⟩ := h
  obtain ⟨K, hk, hm⟩ := hd.ml
  obtain ⟨h1, h2, h3, h4, h5, h6, h7⟩ := hd
  have hK := hm.1
  refine isLamp_ok hk (fun hb => no1 (misLamp_ok hk (fun _ => no1 ⟨rfl, hu⟩) (fun l hl e => ?_))) (fun l hl e => ya1 ?_)
  · subst e
    exact absurd hb (fun q => q.elim (nI_pos (by omega)) (nI_ge hl (by omega)))
  · subst e
    have hv : vp_in (nI l) 12 := vp_in_nI (by omega) (by decide)
    have hc : (nI l).toNatClampNeg = l := nI_clamp (by omega)
    have hml : ∀ {post : Int32 → ST → Prop}, post 1 M → wp_m_isLamp M (nI l) post := fun hp => misLamp_ok hk (fun q => q.elim (fun q => absurd q (nI_pos (by omega))) (fun q => absurd q (nI_ge hl (by omega)))) (fun _ _ _ => hp)
    obtain ⟨o1, o2, o3, o4, ⟨kd, hkd, o5⟩, o6, o7, o8⟩ := hk.2.2.2.1 l hl
    have fin : (m_kind M l = 3 ∨ m_kind M l = 4) → wp_LR_dark_42 (fun r X1 => wp_m_dark M (nI l) z2 (fun q M1 => r = q ∧ Inv (n + 1) X1 M1)) X (nI l) z2 := by
      intro hkind
      have h3k : (3 : Int32) ≤ m_kind M l := by
        rcases hkind with q | q <;> rw [q] <;> decide
      have eq : ∀ r4 : Int32, (r4 = 1 ∧ m_isOut M l = 0 ∨ r4 = 0 ∧ ¬ m_isOut M l = 0) → (r4 = z2 ↔ ¬ m_isOut M l = z2) := by
        intro r4 hr
        rcases hr with ⟨rfl, q⟩ | ⟨rfl, q⟩
        · rw [q]
          rcases hz with rfl | rfl <;> decide
        · have : m_isOut M l = 1 := o8.elim (fun z => absurd z q) id
          rw [this]
          rcases hz with rfl | rfl <;> decide
      have both : ∀ r4 : Int32, (r4 = 1 ∧ m_isOut M l = 0 ∨ r4 = 0 ∧ ¬ m_isOut M l = 0) → (r4 = z2 → wp_Lamps_flip X (nI l) (fun X5 => wp_LR_lampsChanged X5 (fun X7 => wp_m_dark M (nI l) z2 (fun q M1 => 1 = q ∧ Inv (n + 1) X7 M1)))) ∧ (¬ r4 = z2 → wp_m_dark M (nI l) z2 (fun q M1 => 0 = q ∧ Inv (n + 1) X M1)) := by
        intro r4 hr
        refine bh (fun c => nm (nm (nm (nm (hml (ya1 ⟨hv, ?_⟩)))))) (fun c => hml (ya1 ⟨hv, ?_⟩))
        · rw [hc]
          refine yes h3k ⟨hv, nay' ((eq r4 hr).mp c) ⟨hv, nm (nm ⟨rfl, ?_⟩)⟩⟩
          rw [narb hz]
          refine afterLamps (X := xs_Lamps_live X (x_Lamps_live X ^^^ ((1 : Int32) <<< (nI l &&& 31)))) (M := ms_isOut M (upd (m_isOut M) l z2)) (h1.fr rfl rfl rfl rfl rfl rfl rfl rfl rfl rfl) (h2.fr rfl rfl rfl rfl rfl rfl) (h3.fr rfl rfl rfl rfl rfl rfl rfl rfl) ?_ (h7.fr rfl rfl rfl rfl rfl rfl rfl rfl)
          refine ⟨K, hK, hk.2.1, hk.2.2.1, fun l' hl' => ?_, hk.2.2.2.2.1, fun l' hl' => ?_⟩
          · obtain ⟨p1, p2, p3, p4, p5, p6, p7, p8⟩ := hk.2.2.2.1 l' hl'
            refine ⟨p1, p2, p3, p4, p5, p6, p7, ?_⟩
            show bz (upd (m_isOut M) l z2 l')
            by_cases e : l' = l
            · subst e; rw [pk_us]; exact hz
            · rw [pk_un e]; exact p8
          · show bt (x_Lamps_live X ^^^ ((1 : Int32) <<< (nI l &&& 31))) l' = decide (l' < K ∧ upd (m_isOut M) l z2 l' = 0)
            rw [b_xor, b_bit l (by omega) hl', hk.2.2.2.2.2 l' hl']
            by_cases e : l' = l
            · subst e
              rw [pk_us, decide_eq_true (show l' = l' from rfl)]
              have q := (eq r4 hr).mp c
              rcases o8 with z | z
              · have : ¬ z2 = 0 := fun y => q (z.trans y.symm)
                rw [decide_eq_true (show l' < K ∧ m_isOut M l' = 0 from ⟨hl, z⟩), decide_eq_false (fun y => this y.2)]; rfl
              · have : z2 = 0 := hz.elim id (fun y => absurd (z.trans y.symm) q)
                rw [decide_eq_false (fun y => by rw [z] at y; exact absurd y.2 (by decide)), decide_eq_true (show l' < K ∧ z2 = 0 from ⟨hl, this⟩)]; rfl
            · rw [pk_un e, decide_eq_false (show ¬ l' = l from e), Bool.xor_false]
        · rw [hc]
          refine yes h3k ⟨hv, yes' ?_ ⟨rfl, hu⟩⟩
          exact Decidable.byContradiction (fun q => c ((eq r4 hr).mpr q))
      refine isLive_ok hk (fun q => absurd q (fun q => q.elim (nI_pos (by omega)) (nI_ge hl (by omega)))) (fun l' hl' e lv => both 1 ?_) (fun l' hl' e lv => both 0 ?_)
      · have : l = l' := (nI_eq (by omega) (by omega)).mp e
        subst this
        exact Or.inl ⟨rfl, lv⟩
      · have : l = l' := (nI_eq (by omega) (by omega)).mp e
        subst this
        exact Or.inr ⟨rfl, lv⟩
    refine ⟨hv, ?_⟩
    rw [hc, o2]
    refine bh (fun k3 => fin (Or.inl k3)) (fun k3 => ⟨hv, bh (fun k4 => fin (Or.inr k4)) (fun k4 => hml (ya1 ⟨hv, ?_⟩))⟩)
    rw [hc]
    refine nay (fun q => ?_) ⟨rfl, hu⟩
    rw [o5] at q k3 k4
    have q1 := (nI_leI (a := 3) (by decide) (by omega)).mp q
    have q2 : kd ≠ 3 := fun z => k3 (by rw [z]; rfl)
    have q3 : kd ≠ 4 := fun z => k4 (by rw [z]; rfl)
    omega
theorem standsAt_ok {n K : Nat} {X M : ST} (hk : LampK n K X M) {c : Nat} {post : Int32 → ST → Prop} (h1 : (∃ l, l < K ∧ m_crossing M l = nI c) → post 1 X) (h0 : (∀ l, l < K → ¬ m_crossing M l = nI c) → post 0 X) : wp_Lamps_standsAt X (nI c) post := by
  have hK := hk.1
  have go : ∀ (m i : Nat), i + m = K → (∀ l, l < i → ¬ m_crossing M l = nI c) → wp_Lamps_standsAt_2 (fun X1 => post 1 X1) (fun X2 => post 0 X2) post (m + 1) X (nI c) (nI i) := by
    intro m
    induction m with
    | zero =>
      intro i hi hn
      exact yes (by rw [hk.2.1]; exact nI_le (by omega) (by omega)) (h0 (fun l hl => hn l (by omega)))
    | succ m ih =>
      intro i hi hn
      refine nay (by rw [hk.2.1]; exact nI_ge (by omega) (by omega)) ⟨vp_in_nI (by omega) (by decide), ?_⟩
      rw [nI_clamp (by omega), (hk.2.2.2.1 i (by omega)).1, nI_1]
      refine bn (fun q => ih (i + 1) (by omega) (fun l hl => ?_)) (fun q => h1 ⟨i, by omega, q⟩)
      by_cases e : l = i
      · subst e; exact q
      · exact hn l (by omega)
  exact ⟨_, go K 0 (by omega) (fun l hl => absurd hl (by omega))⟩
theorem mstands_ok {n K : Nat} {X M : ST} (hk : LampK n K X M) {c : Nat} {a2 a3 : Int32} {K1 : ST → Prop} {K0 : ST → Int32 → Int32 → Int32 → Prop} {post : Int32 → ST → Prop} (h1 : (∃ l, l < K ∧ m_crossing M l = nI c) → K1 M) (h0 : (∀ l, l < K → ¬ m_crossing M l = nI c) → K0 M (nI c) a2 a3) : ∃ m, wp_m_lamp_21 K1 K0 post m M (nI c) a2 a3 0 := by
  have hK := hk.1
  have go : ∀ (m i : Nat), i + m = K → (∀ l, l < i → ¬ m_crossing M l = nI c) → wp_m_lamp_21 K1 K0 post (m + 1) M (nI c) a2 a3 (nI i) := by
    intro m
    induction m with
    | zero =>
      intro i hi hn
      exact yes (by rw [hk.2.2.1]; exact nI_le (by omega) (by omega)) (h0 (fun l hl => hn l (by omega)))
    | succ m ih =>
      intro i hi hn
      refine nay (by rw [hk.2.2.1]; exact nI_ge (by omega) (by omega)) ⟨vp_in_nI (by omega) (by decide), ?_⟩
      rw [nI_clamp (by omega), nI_1]
      refine bn (fun q => ih (i + 1) (by omega) (fun l hl => ?_)) (fun q => h1 ⟨i, by omega, q⟩)
      by_cases e : l = i
      · subst e; exact q
      · exact hn l (by omega)
  exact ⟨_, go K 0 (by omega) (fun l hl => absurd hl (by omega))⟩
def xRaise (X : ST) (K : Nat) (c a2 a3 : Int32) : ST := xs_Lamps_count (xs_Lamps_live (xs_Lamps_others (xs_Lamps_kinds (xs_Lamps_crossings X (upd (x_Lamps_crossings X) K c)) (upd (x_Lamps_kinds X) K a2)) (upd (x_Lamps_others X) K a3)) (x_Lamps_live X ||| ((1 : Int32) <<< (nI K &&& 31)))) (nI K + 1)
def mRaise (M : ST) (K : Nat) (c a2 a3 : Int32) : ST := ms_lamps (ms_price (ms_isOut (ms_other (ms_kind (ms_crossing M (upd (m_crossing M) K c)) (upd (m_kind M) K a2)) (upd (m_other M) K a3)) (upd (m_isOut M) K 0)) (upd (m_price M) K 0)) (nI K + 1)
theorem raise_lamp {n K c : Nat} {X M : ST} {a2 a3 : Int32} (hk : LampK n K X M) (hK : K < 12) (hc : c < 40) (k0 : ¬ a2 < 0) (k4 : a2 ≤ 4) (htw : a2 = 1 → ∃ o, o < K ∧ a3 = nI o) : ILamp n (xRaise X K (nI c) a2 a3) (mRaise M K (nI c) a2 a3) := by
  have hkd : ∃ k, k ≤ 4 ∧ a2 = nI k := nI_of2 (M := 4) (n := 4) rfl k0 k4
  refine ⟨K + 1, hK, nI_1 K, nI_1 K, fun l hl => ?_, fun l hl hl2 => ?_, fun l hl => ?_⟩
  · show upd (x_Lamps_crossings X) K (nI c) l = upd (m_crossing M) K (nI c) l ∧ upd (x_Lamps_kinds X) K a2 l = upd (m_kind M) K a2 l ∧ x_Lamps_prices X l = upd (m_price M) K 0 l ∧ (∃ c', c' < 40 ∧ upd (m_crossing M) K (nI c) l = nI c') ∧ (∃ k, k ≤ 4 ∧ upd (m_kind M) K a2 l = nI k) ∧ (upd (m_kind M) K a2 l = 1 → upd (x_Lamps_others X) K a3 l = upd (m_other M) K a3 l ∧ ∃ o, o < K + 1 ∧ upd (m_other M) K a3 l = nI o ∧ o ≠ l) ∧ (-(100000 + 1000 * (n : Int)) ≤ (upd (m_price M) K 0 l).toInt ∧ (upd (m_price M) K 0 l).toInt ≤ 100000 + 1000 * (n : Int)) ∧ bz (upd (m_isOut M) K 0 l)
    by_cases e : l = K
    · subst e
      simp only [pk_us]
      refine ⟨trivial, trivial, hk.2.2.2.2.1 l (Nat.le_refl _) hK, ⟨c, hc, rfl⟩, hkd, fun q => ?_, ?_, Or.inl rfl⟩
      · obtain ⟨o, ho, eo⟩ := htw q
        exact ⟨trivial, o, by omega, eo, by omega⟩
      · have y0 : (0 : Int32).toInt = 0 := rfl
        rw [y0]
        omega
    · simp only [pk_un e]
      obtain ⟨p1, p2, p3, p4, p5, p6, p7, p8⟩ := hk.2.2.2.1 l (by omega)
      refine ⟨p1, p2, p3, p4, p5, fun q => ?_, p7, p8⟩
      obtain ⟨q1, o, q2, q3⟩ := p6 q
      exact ⟨q1, o, by omega, q3⟩
  · exact hk.2.2.2.2.1 l (by omega) hl2
  · show bt (x_Lamps_live X ||| ((1 : Int32) <<< (nI K &&& 31))) l = decide (l < K + 1 ∧ upd (m_isOut M) K 0 l = 0)
    rw [b_or, b_bit K (by omega) hl, hk.2.2.2.2.2 l hl]
    by_cases e : l = K
    · subst e
      rw [pk_us, decide_eq_true (show l = l from rfl), Bool.or_true, decide_eq_true (show l < l + 1 ∧ (0 : Int32) = 0 from ⟨by omega, rfl⟩)]
    · rw [pk_un e, decide_eq_false (show ¬ l = K from e), Bool.or_false]
      apply decide_eq_decide.mpr
      constructor
      · exact fun q => ⟨by omega, q.2⟩
      · exact fun q => ⟨by omega, q.2⟩
theorem ls_lamp (n : Nat) (X M : ST) (a1 a2 a3 : Int32) (_ : n < 512) (h : Inv n X M) : wp_LR_lamp X a1 a2 a3 (fun r X1 => wp_m_lamp M a1 a2 a3 (fun q M1 => r = q ∧ Inv (n + 1) X1 M1)) := by
  have hu := h.up
  obtain ⟨d, hd⟩ := h
  obtain ⟨K, hk, hm⟩ := hd.ml
  obtain ⟨h1, h2, h3, h4, h5, h6, h7⟩ := hd
  have hK := hm.1
  refine cross_ok (fun hb => no2 (mcross0 hb (no2 ⟨rfl, hu⟩))) (fun c hc4 e => ya2 ?_)
  subst e
  refine bh (fun k0 => mcross1 hc4 (ya2 (yes k0 ⟨rfl, hu⟩))) (fun k0 => bh (fun k4 => ?_) (fun k4 => mcross1 hc4 (ya2 (nay k0 (nay k4 ⟨rfl, hu⟩)))))
  -- the end of both, when the LAMP may be raised
  have fin : (a2 = 1 → ∃ o, o < K ∧ a3 = nI o) → ∀ {P : Int32 → ST → Prop}, (∀ r X1, wp_m_lamp_65 (fun q M1 => r = q ∧ Inv (n + 1) X1 M1) M (nI c) a2 a3 → P r X1) → wp_LR_lamp_50 P X (nI c) a2 a3 := by
    intro htw P hP
    unfold wp_LR_lamp_50
    rw [hk.2.1]
    refine bh (fun q => ?_) (fun q => ?_)
    · have hK12 : K < 12 := (nI_ltI (b := 12) (by omega) (by decide)).mp q
      have hv : vp_in (nI K) 12 := vp_in_nI hK12 (by decide)
      have cK : (nI K).toNatClampNeg = K := nI_clamp (by omega)
      have main : wp_m_lamp_65 (fun q M1 => nI K = q ∧ Inv (n + 1) (xs_Told_count (xs_Lamps_surveyed (xRaise X K (nI c) a2 a3) 0) 0) M1) M (nI c) a2 a3 := by
        unfold wp_m_lamp_65
        have hL := raise_lamp hk hK12 hc4 k0 k4 htw
        have hv2 : vp_in (m_lamps M) 12 := by rw [hm.2.1]; exact hv
        refine nay' (fun z => ?_) ⟨hv2, nm ⟨hv2, nm ⟨hv2, nm ⟨hv2, nm ⟨hv2, nm (nm (nm ⟨?_, ?_⟩))⟩⟩⟩⟩⟩
        · rw [hm.2.1] at z
          exact absurd ((nI_eq (b := 12) (by omega) (by decide)).mp z) (by omega)
        · show nI K = m_lamps M + 1 - 1
          rw [hm.2.1, nI_1, nI_pred]
        · have e : ∀ M' : ST, M' = mRaise M K (nI c) a2 a3 → Inv (n + 1) (xs_Told_count (xs_Lamps_surveyed (xRaise X K (nI c) a2 a3) 0) 0) (ms_told M' 0) := by
            intro M' hM'
            subst hM'
            refine afterLamps (d := d) (h1.fr rfl rfl rfl rfl rfl rfl rfl rfl rfl rfl) (h2.fr rfl rfl rfl rfl rfl rfl) (h3.fr rfl ?_ rfl rfl rfl rfl rfl rfl) hL (h7.fr rfl rfl rfl rfl rfl rfl rfl rfl)
            exact (ways_sA (k := 22) (by decide) _ _).trans ((ways_sA (k := 21) (by decide) _ _).trans (ways_sA (k := 20) (by decide) _ _))
          refine e _ ?_
          unfold mRaise
          show ms_lamps (ms_price (ms_isOut (ms_other (ms_kind (ms_crossing M (upd (m_crossing M) (m_lamps M).toNatClampNeg (nI c))) (upd (m_kind M) (m_lamps M).toNatClampNeg a2)) (upd (m_other M) (m_lamps M).toNatClampNeg a3)) (upd (m_isOut M) (m_lamps M).toNatClampNeg (vp_nar .boolean 0))) (upd (m_price M) (m_lamps M).toNatClampNeg 0)) (m_lamps M + 1) = _
          rw [hm.2.1, cK, nar0]
      unfold wp_Lamps_raise
      rw [hk.2.1]
      have e : x_Lamps_count X + 1 = nI K + 1 := by rw [hk.2.1]
      refine nm ⟨hv, nm ⟨hv, nm ⟨hv, nm (nm (nm (nm (nm (nm ?_)))))⟩⟩⟩
      refine hP _ _ ?_
      have e2 : ∀ X' : ST, X' = xRaise X K (nI c) a2 a3 → wp_m_lamp_65 (fun q M1 => nI K = q ∧ Inv (n + 1) (xs_Told_count (xs_Lamps_surveyed X' 0) 0) M1) M (nI c) a2 a3 := fun X' hX' => by rw [hX']; exact main
      refine e2 _ ?_
      unfold xRaise
      show xs_Lamps_count (xs_Lamps_live (xs_Lamps_others (xs_Lamps_kinds (xs_Lamps_crossings X (upd (x_Lamps_crossings X) (nI K).toNatClampNeg (nI c))) (upd (x_Lamps_kinds X) (nI K).toNatClampNeg a2)) (upd (x_Lamps_others X) (nI K).toNatClampNeg a3)) (x_Lamps_live X ||| ((1 : Int32) <<< (nI K &&& 31)))) (x_Lamps_count X + 1) = _
      rw [e, cK]
    · refine hP _ _ (yes' ?_ ⟨rfl, hu⟩)
      rw [hm.2.1]
      have : ¬ K < 12 := fun z => q ((nI_ltI (b := 12) (by omega) (by decide)).mpr z)
      rw [show K = 12 by omega]
      rfl
  refine standsAt_ok hk (fun q => ya2 (mcross1 hc4 (ya2 (nay k0 (yes k4 (mstands_ok hk (fun _ => ⟨rfl, hu⟩) (fun z => absurd q (fun ⟨l, hl, e⟩ => z l hl e)))))))) (fun q => no2 (bn (fun t1 => ?_) (fun t1 => ?_)))
  · refine fin (fun z => absurd z t1) (fun r X1 hr => mcross1 hc4 (ya2 (nay k0 (yes k4 (mstands_ok hk (fun z => absurd z (fun ⟨l, hl, e⟩ => q l hl e)) (fun _ => nay' t1 hr))))))
  · refine isLamp_ok hk (fun hb => ⟨fun k => absurd rfl k, fun _ => mcross1 hc4 (ya2 (nay k0 (yes k4 (mstands_ok hk (fun z => absurd z (fun ⟨l, hl, e⟩ => q l hl e)) (fun _ => yes' t1 (misLamp_ok hk (fun _ => no1 ⟨rfl, hu⟩) (fun o ho eo => ?_)))))))⟩) (fun o ho eo => ya1 (fin (fun _ => ⟨o, ho, eo⟩) (fun r X1 hr => mcross1 hc4 (ya2 (nay k0 (yes k4 (mstands_ok hk (fun z => absurd z (fun ⟨l, hl, e⟩ => q l hl e)) (fun _ => yes' t1 (misLamp_ok hk (fun hb => ?_) (fun o ho eo => ya1 hr))))))))))
    · subst eo
      exact absurd hb (fun z => z.elim (nI_pos (by omega)) (nI_ge ho (by omega)))
    · subst eo
      exact absurd hb (fun z => z.elim (nI_pos (by omega)) (nI_ge ho (by omega)))
