/-- the bit of one LAMP -/
theorem b_bit (o : Nat) (ho : o < 32) {j : Nat} (hj : j < 32) : bt ((1 : Int32) <<< (nI o &&& 31)) j = decide (j = o) := by
  rw [b_shl o ho 1 hj]
  rcases Nat.lt_or_ge j o with h | h
  · rw [decide_eq_false (show ¬ o ≤ j by omega), decide_eq_false (show ¬ j = o by omega)]; rfl
  · rw [decide_eq_true h, b_1 (j - o) (by omega), Bool.true_and]
    by_cases e : j = o
    · subst e; simp
    · rw [decide_eq_false e, decide_eq_false (show ¬ j - o = 0 by omega)]
theorem LampK.sv {n K : Nat} {X X' M : ST} (h : LampK n K X M) (s : SV X X') : LampK n K X' M := by
  unfold LampK at h ⊢
  rw [show x_Lamps_count X' = x_Lamps_count X from s.1 2 (by decide), show x_Lamps_crossings X' = x_Lamps_crossings X from s.2.2.1 20 (by decide) (by decide) (by decide), show x_Lamps_kinds X' = x_Lamps_kinds X from s.2.2.1 21 (by decide) (by decide) (by decide), show x_Lamps_prices X' = x_Lamps_prices X from s.2.2.1 23 (by decide) (by decide) (by decide), show x_Lamps_others X' = x_Lamps_others X from s.2.2.1 22 (by decide) (by decide) (by decide), show x_Lamps_live X' = x_Lamps_live X from s.1 1 (by decide)]
  exact h
/-- the survey's second half, behind the first i LAMPS -/
def SN (M : ST) (d : Nat → Nat → Nat) (K i : Nat) (t g : Nat → Int32) : Prop := (∀ l, l < i → t l = twI M d K l) ∧ ∀ l, l < K → ∀ j, j < 32 → bt (g l) j = decide (j < K ∧ m_isOut M l = 0 ∧ m_isOut M j = 0 ∧ ((twI M d K l = nI j ∧ l < i) ∨ (twI M d K j = nI l ∧ j < i)))
theorem SN_end {M : ST} {d : Nat → Nat → Nat} {K : Nat} {t g : Nat → Int32} (h : SN M d K K t g) : ∀ l, l < K → t l = twI M d K l ∧ ∀ j, j < 32 → bt (g l) j = decide (j < K ∧ m_isOut M l = 0 ∧ m_isOut M j = 0 ∧ (twI M d K l = nI j ∨ twI M d K j = nI l)) := by
  intro l hl
  refine ⟨h.1 l hl, fun j hj => ?_⟩
  rw [h.2 l hl j hj]
  by_cases q : j < K
  · simp [q, hl]
  · simp [q]
theorem SN_skip {M : ST} {d : Nat → Nat → Nat} {K i : Nat} {t g : Nat → Int32} (hm : ML d K M) (hi : i < K) (h : SN M d K i t g) (hno : m_isOut M i = 0 → ∀ o, o < K → twI M d K i = nI o → ¬ m_isOut M o = 0) : SN M d K (i + 1) (upd t i (twI M d K i)) g := by
  have hK := hm.1
  refine ⟨fun l hl => ?_, fun l hl j hj => ?_⟩
  · by_cases e : l = i
    · subst e; exact pk_us
    · rw [pk_un e]; exact h.1 l (by omega)
  · rw [h.2 l hl j hj]
    apply decide_eq_decide.mpr
    constructor
    · rintro ⟨a, b, c, e⟩
      exact ⟨a, b, c, e.imp (fun z => ⟨z.1, by omega⟩) (fun z => ⟨z.1, by omega⟩)⟩
    · rintro ⟨a, b, c, e⟩
      refine ⟨a, b, c, ?_⟩
      rcases e with ⟨z1, z2⟩ | ⟨z1, z2⟩
      · by_cases el : l = i
        · subst el; exact absurd c (hno b j a z1)
        · exact Or.inl ⟨z1, by omega⟩
      · by_cases el : j = i
        · subst el; exact absurd b (hno c l hl z1)
        · exact Or.inr ⟨z1, by omega⟩
theorem SN_tie {M : ST} {d : Nat → Nat → Nat} {K i o : Nat} {t g : Nat → Int32} (hm : ML d K M) (hi : i < K) (ho : o < K) (hoi : o ≠ i) (e : twI M d K i = nI o) (l1 : m_isOut M i = 0) (l2 : m_isOut M o = 0) (h : SN M d K i t g) : SN M d K (i + 1) (upd t i (nI o)) (upd (upd g i (g i ||| ((1 : Int32) <<< (nI o &&& 31)))) o (upd g i (g i ||| ((1 : Int32) <<< (nI o &&& 31))) o ||| ((1 : Int32) <<< (nI i &&& 31)))) := by
  have hK := hm.1
  refine ⟨fun l hl => ?_, fun l hl j hj => ?_⟩
  · by_cases el : l = i
    · subst el; rw [pk_us, e]
    · rw [pk_un el]; exact h.1 l (by omega)
  · have hb := h.2 l hl j hj
    have hg : bt (upd (upd g i (g i ||| ((1 : Int32) <<< (nI o &&& 31)))) o (upd g i (g i ||| ((1 : Int32) <<< (nI o &&& 31))) o ||| ((1 : Int32) <<< (nI i &&& 31))) l) j = (bt (g l) j || decide ((l = i ∧ j = o) ∨ (l = o ∧ j = i))) := by
      by_cases e1 : l = o
      · subst e1
        rw [pk_us, pk_un hoi, b_or, b_bit i (by omega) hj]
        congr 1
        apply decide_eq_decide.mpr
        omega
      · rw [pk_un e1]
        by_cases e2 : l = i
        · subst e2
          rw [pk_us, b_or, b_bit o (by omega) hj]
          congr 1
          apply decide_eq_decide.mpr
          omega
        · rw [pk_un e2, decide_eq_false (fun q => by omega), Bool.or_false]
    rw [hg, hb, ← Bool.decide_or]
    apply decide_eq_decide.mpr
    constructor
    · rintro (⟨a, b, c, z⟩ | ⟨rfl, rfl⟩ | ⟨rfl, rfl⟩)
      · exact ⟨a, b, c, z.imp (fun z => ⟨z.1, by omega⟩) (fun z => ⟨z.1, by omega⟩)⟩
      · exact ⟨ho, l1, l2, Or.inl ⟨e, by omega⟩⟩
      · exact ⟨hi, l2, l1, Or.inr ⟨e, by omega⟩⟩
    · rintro ⟨a, b, c, z⟩
      rcases z with ⟨z1, z2⟩ | ⟨z1, z2⟩
      · by_cases el : l = i
        · subst el
          exact Or.inr (Or.inl ⟨rfl, (nI_eq (by omega) (by omega)).mp (z1.symm.trans e)⟩)
        · exact Or.inl ⟨a, b, c, Or.inl ⟨z1, by omega⟩⟩
      · by_cases el : j = i
        · subst el
          exact Or.inr (Or.inr ⟨(nI_eq (by omega) (by omega)).mp (z1.symm.trans e), rfl⟩)
        · exact Or.inl ⟨a, b, c, Or.inr ⟨z1, by omega⟩⟩
def xTN (X : ST) (t g : Nat → Int32) : ST := xs_Lamps_needs (xs_Lamps_twins X t) g
theorem xTN_t (X : ST) (t g t' : Nat → Int32) : xs_Lamps_twins (xTN X t g) t' = xTN X t' g := (sA_comm _ (by decide) _ _).trans (congrArg (fun Y => ks_sA Y _ _) (sA_sA _ _ _ _))
theorem xTN_g (X : ST) (t g g' : Nat → Int32) : xs_Lamps_needs (xTN X t g) g' = xTN X t g' := sA_sA _ _ _ _
theorem xTN_sv (X : ST) (t g : Nat → Int32) : SV X (xTN X t g) := ⟨fun _ _ => rfl, fun _ _ => rfl, fun k a b _ => (ks_up_ne _ _ b).trans (ks_up_ne _ _ a), rfl⟩
theorem xTN_gaps (X : ST) (t g : Nat → Int32) : x_gaps (xTN X t g) = x_gaps X := (gaps_sA (k := 25) (by decide) _ _).trans (gaps_sA (k := 24) (by decide) _ _)
theorem xTN_ways (X : ST) (t g : Nat → Int32) : x_ways (xTN X t g) = x_ways X := (ways_sA (k := 25) (by decide) _ _).trans (ways_sA (k := 24) (by decide) _ _)
theorem IWay.fw {d : Nat → Nat → Nat} {X M X' : ST} (h : IWay d X M) (e0 : x_Town_reckoned X' = x_Town_reckoned X) (e1 : ∀ a, a < 40 → x_ways X' a = x_ways X a) : IWay d X' M := ⟨h.1, h.2.1, fun a ha q b hb => by rw [e1 a ha]; rw [e0] at q; exact h.2.2 a ha q b hb⟩
theorem tie_ok {n K i : Nat} {d : Nat → Nat → Nat} {X M : ST} {t g : Nat → Int32} {post : ST → Prop} (hk : LampK n K X M) (hm : ML d K M) (hi : i < K) (h : SN M d K i t g) (hp : ∀ g', SN M d K (i + 1) (upd t i (twI M d K i)) g' → post (xTN X (upd t i (twI M d K i)) g')) : wp_Lamps_tieTwins (xTN X (upd t i (twI M d K i)) g) (nI i) (twI M d K i) post := by
  have hK := hm.1
  have hk2 : LampK n K (xTN X (upd t i (twI M d K i)) g) M := hk.sv (xTN_sv _ _ _)
  refine isLive_ok hk2 (fun q => absurd q (fun q => q.elim (nI_pos (by omega)) (nI_ge hi (by omega)))) (fun l hl e lv => ya2 ?_) (fun l hl e lv => no2 (hp g (SN_skip hm hi h (fun z => ?_))))
  · have : i = l := (nI_eq (by omega) (by omega)).mp e
    subst this
    refine isLive_ok hk2 (fun q => no2 (hp g (SN_skip hm hi h (fun z o ho eo => ?_)))) (fun o ho eo lo => ya2 ?_) (fun o ho eo lo => no2 (hp g (SN_skip hm hi h (fun z o' ho' eo' => ?_))))
    · rw [eo] at q
      exact absurd q (fun q => q.elim (nI_pos (by omega)) (nI_ge ho (by omega)))
    · have hoi : o ≠ i := by
        rcases twI_cases hm hi with z | ⟨o', z1, z2, z3⟩
        · exact absurd (eo.symm.trans z) (nI_m1 (by omega))
        · have := (nI_eq (by omega) (by omega)).mp (eo.symm.trans z3)
          omega
      have vi : vp_in (nI i) 12 := vp_in_nI (by omega) (by decide)
      have hq := SN_tie hm hi ho hoi eo lv lo h
      rw [eo]
      have vo : vp_in (nI o) 12 := vp_in_nI (by omega) (by decide)
      refine ⟨vi, vi, nm ⟨vo, vo, nm ?_⟩⟩
      rw [nI_clamp (by omega), nI_clamp (by omega), xTN_g, xTN_g]
      rw [eo] at hp
      exact hp _ hq
    · have := (nI_eq (by omega) (by omega)).mp (eo.symm.trans eo')
      subst this
      exact lo
  · have : i = l := (nI_eq (by omega) (by omega)).mp e
    subst this
    exact absurd z lv
theorem gaps_ok {n K i c : Nat} {d : Nat → Nat → Nat} {X M : ST} {post : ST → Prop} {Q : ST → Int32 → Prop} (hk : LampK n K X M) (hm : ML d K M) (hi : i < K) (hc : m_crossing M i = nI c) (hc4 : c < 40) (hw : ∀ b, b < 40 → x_ways X c b = nI (cv (d c b))) (h : ∀ f, (∀ j, j < K → f j = nI (cv (wL M d i j))) → Q (xs_gaps X i f) (nI i)) : ∃ m, wp_Lamps_survey_34 Q post m X (nI i) c 0 := by
  have hK := hm.1
  have two : ∀ f g, xs_gaps (xs_gaps X i f) i g = xs_gaps X i g := fun f g => sA_sA _ _ _ _
  have get : ∀ f, x_gaps (xs_gaps X i f) i = f := fun f => gA_sA _ _ _
  have go : ∀ (m j : Nat) (f : Nat → Int32), j + m = K → (∀ j', j' < j → f j' = nI (cv (wL M d i j'))) → wp_Lamps_survey_34 Q post (m + 1) (xs_gaps X i f) (nI i) c (nI j) := by
    intro m
    induction m with
    | zero =>
      intro j f hj hf
      have : j = K := by omega
      subst this
      exact yes (by show x_Lamps_count X ≤ _; rw [hk.2.1]; exact nI_le (Nat.le_refl _) (by omega)) (h f hf)
    | succ m ih =>
      intro j f hj hf
      have hj2 : j < K := by omega
      have vj : vp_in (nI j) 12 := vp_in_nI (by omega) (by decide)
      have q := hm.cr hj2
      have ex : x_Lamps_crossings (xs_gaps X i f) j = nI (m_crossing M j).toNatClampNeg := by
        show ks_up X.2.2.1 (i + 200) f 20 j = _
        rw [ks_up_ne _ _ (by omega), ← q.2]
        exact (hk.2.2.2.1 j hj2).1
      have ew : x_ways (xs_gaps X i f) c = x_ways X c := ks_up_ne _ _ (by omega)
      refine nay (by show ¬ x_Lamps_count X ≤ _; rw [hk.2.1]; exact nI_ge (by omega) (by omega)) ?_
      have cj : (nI j).toNatClampNeg = j := nI_clamp (by omega)
      have ci : (nI i).toNatClampNeg = i := nI_clamp (by omega)
      rw [cj, ci, ex, ew]
      refine ⟨vp_in_nI (by omega) (by decide), vj, vp_in_nI q.1 (by decide), vj, nm ?_⟩
      rw [nI_clamp (show (m_crossing M j).toNatClampNeg < 2 ^ 31 by omega), hw _ q.1, two, get, nI_1]
      refine ih (j + 1) _ (by omega) (fun j' hj' => ?_)
      by_cases e : j' = j
      · subst e
        rw [pk_us]
        unfold wL
        rw [hc, nI_clamp (show c < 2 ^ 31 by omega)]
      · rw [pk_un e]; exact hf j' (by omega)
  have := go K 0 (x_gaps X i) (by omega) (fun j hj => absurd hj (by omega))
  have e : xs_gaps X i (x_gaps X i) = X := sA_self _ _
  rw [e] at this
  exact ⟨_, this⟩
theorem survey_ok {n : Nat} {d : Nat → Nat → Nat} {X M : ST} {post : ST → Prop} (h : InvD n d X M) (hp : ∀ X', InvD n d X' M → SV X X' → ¬ x_Lamps_surveyed X' = 0 → post X') : wp_Lamps_survey X post := by
  refine bh (fun c => ?_) (fun c => hp X h (SV.rf X) c)
  obtain ⟨K, hk, hm⟩ := h.ml
  have hK := hm.1
  -- the first half: gaps
  have go : ∀ (m i : Nat) (Y : ST) {Q : ST → Prop}, i + m = K → InvD n d Y M → SV X Y → x_Lamps_surveyed Y = 0 → (∀ i', i' < i → ∀ j, j < K → x_gaps Y i' j = nI (cv (wL M d i' j))) → (∀ Y, InvD n d Y M → SV X Y → x_Lamps_surveyed Y = 0 → (∀ i', i' < K → ∀ j, j < K → x_gaps Y i' j = nI (cv (wL M d i' j))) → Q Y) → wp_Lamps_survey_10 Q post (m + 1) Y (nI i) := by
    intro m
    induction m with
    | zero =>
      intro i Y Q hi hY sY cY hg hQ
      have : i = K := by omega
      subst this
      exact yes (by rw [(hk.sv sY).2.1]; exact nI_le (Nat.le_refl _) (by omega)) (hQ Y hY sY cY hg)
    | succ m ih =>
      intro i Y Q hi hY sY cY hg hQ
      have hkY := hk.sv sY
      have hi2 : i < K := by omega
      have q := hm.cr hi2
      refine nay (by rw [hkY.2.1]; exact nI_ge hi2 (by omega)) ⟨vp_in_nI (by omega) (by decide), ?_⟩
      have ec : x_Lamps_crossings Y (nI i).toNatClampNeg = nI (m_crossing M i).toNatClampNeg := by
        rw [nI_clamp (by omega), ← q.2]
        exact (hkY.2.2.2.1 i hi2).1
      rw [ec]
      refine waysFrom_ok hY q.1 (fun Z hZ sw hw => gaps_ok (hkY.sv sw.sv) hm hi2 q.2 q.1 hw (fun f hf => ?_))
      rw [nI_1]
      have sZ : SV Z (xs_gaps Z i f) := ⟨fun _ _ => rfl, fun _ _ => rfl, fun k _ _ hk => ks_up_ne _ _ (by omega), rfl⟩
      have cZ : x_Lamps_surveyed (xs_gaps Z i f) = 0 := (congrFun sw.1 3).trans cY
      obtain ⟨h1, h2, h3, h4, h5, h6, h7⟩ := hZ
      refine ih (i + 1) _ (by omega) ⟨sZ.lane h1, sZ.row h2, h3.fw rfl (fun a ha => ks_up_ne _ _ (by omega)), sZ.lamp h4, ⟨Or.inl cZ, fun q => absurd cZ q⟩, sZ.told h6, sZ.proof h7⟩ ((sY.tr sw.sv).tr sZ) cZ (fun i' hi' j hj => ?_) hQ
      · show ks_up Z.2.2.1 (i + 200) f (i' + 200) j = _
        by_cases e : i' = i
        · subst e; rw [ks_up_eq]; exact hf j hj
        · rw [ks_up_ne _ _ (by omega)]
          have : Z.2.2.1 (i' + 200) = Y.2.2.1 (i' + 200) := sw.2.2.1 _ (by omega)
          rw [this]
          exact hg i' (by omega) j hj
  refine ⟨_, go K 0 X (by omega) h (SV.rf X) c (fun i' hi' => absurd hi' (by omega)) (fun Y hY sY cY hg => ?_)⟩
  -- the second half
  refine fillI_ok (by decide) (fun g0 hg0 => ?_)
  have hkY := hk.sv sY
  have e0 : ks_sA Y 25 g0 = xTN Y (x_Lamps_twins Y) g0 := (congrArg (fun Z => ks_sA Z 25 g0) (sA_self Y 24)).symm
  rw [e0]
  have go2 : ∀ (m i : Nat) (t g : Nat → Int32) {Q : ST → Prop}, i + m = K → SN M d K i t g → (∀ t g, SN M d K K t g → Q (xTN Y t g)) → wp_Lamps_survey_80 Q post (m + 1) (xTN Y t g) (nI i) := by
    intro m
    induction m with
    | zero =>
      intro i t g Q hi hS hQ
      have : i = K := by omega
      subst this
      exact yes (by show x_Lamps_count Y ≤ _; rw [hkY.2.1]; exact nI_le (Nat.le_refl _) (by omega)) (hQ t g hS)
    | succ m ih =>
      intro i t g Q hi hS hQ
      have hi2 : i < K := by omega
      have vi : vp_in (nI i) 12 := vp_in_nI (by omega) (by decide)
      refine nay (by show ¬ x_Lamps_count Y ≤ _; rw [hkY.2.1]; exact nI_ge hi2 (by omega)) ?_
      refine xtwinOf_ok (hkY.sv (xTN_sv Y t g)) hm (fun j hj => by rw [xTN_gaps]; exact hg i hi2 j hj) hi2 ⟨vi, nm ⟨vi, ?_⟩⟩
      rw [xTN_t, nI_clamp (by omega)]
      have et : x_Lamps_twins (xTN Y t g) = t := rfl
      have et2 : x_Lamps_twins (xTN Y (upd t i (twI M d K i)) g) i = twI M d K i := pk_us
      rw [et, et2, nI_1]
      exact tie_ok hkY hm hi2 hS (fun g' hS' => ih (i + 1) _ g' (by omega) hS' hQ)
  have hS0 : SN M d K 0 (x_Lamps_twins Y) g0 := ⟨fun l hl => absurd hl (by omega), fun l hl j hj => by
    rw [hg0 l (by omega), b_0]
    exact (decide_eq_false (fun q => by omega)).symm⟩
  refine ⟨_, go2 K 0 _ _ (by omega) hS0 (fun t g hS => nm ?_)⟩
  have sT : SV Y (xs_Lamps_surveyed (xTN Y t g) 1) := ⟨fun k hk => (ks_up_ne _ _ hk).trans ((xTN_sv Y t g).1 k hk), (xTN_sv Y t g).2.1, (xTN_sv Y t g).2.2.1, rfl⟩
  obtain ⟨h1, h2, h3, h4, h5, h6, h7⟩ := hY
  have c1 : x_Lamps_surveyed (xs_Lamps_surveyed (xTN Y t g) 1) = 1 := rfl
  have hE := SN_end hS
  refine hp _ ⟨sT.lane h1, sT.row h2, h3.fr rfl (xTN_ways Y t g) rfl rfl rfl rfl rfl rfl, sT.lamp h4, ⟨Or.inr c1, fun _ K' hK' hK12 i hi => ?_⟩, sT.told h6, sT.proof h7⟩ (sY.tr sT) (by rw [c1]; decide)
  have : K' = K := (nI_eq (by omega) (by omega)).mp (hK'.symm.trans hm.2.1)
  subst this
  refine ⟨fun j hj => ?_, (hE i hi).1, (hE i hi).2⟩
  have : x_gaps (xs_Lamps_surveyed (xTN Y t g) 1) = x_gaps Y := xTN_gaps Y t g
  rw [this]
  exact hg i hi j hj
theorem ISurv.at {n K : Nat} {d : Nat → Nat → Nat} {X M : ST} (h : InvD n d X M) (hm : ML d K M) (hs : ¬ x_Lamps_surveyed X = 0) {i : Nat} (hi : i < K) : (∀ j, j < K → x_gaps X i j = nI (cv (wL M d i j))) ∧ x_Lamps_twins X i = twI M d K i ∧ ∀ j, j < 32 → bt (x_Lamps_needs X i) j = decide (j < K ∧ m_isOut M i = 0 ∧ m_isOut M j = 0 ∧ (twI M d K i = nI j ∨ twI M d K j = nI i)) := h.2.2.2.2.1.2 hs K hm.2.1 hm.1 i hi
theorem ls_twin (n : Nat) (X M : ST) (a1 : Int32) (_ : n < 512) (h : Inv n X M) : wp_LR_twin X a1 (fun r X1 => wp_m_twin M a1 (fun q M1 => r = q ∧ Inv (n + 1) X1 M1)) := by
  have hu := h.up
  obtain ⟨d, hd⟩ := h
  obtain ⟨K, hk, hm⟩ := hd.ml
  have hK := hm.1
  refine isLamp_ok hk (fun hb => no1 (misLamp_ok hk (fun _ => no1 ⟨rfl, hu⟩) (fun l hl e => ?_))) (fun l hl e => ya1 ?_)
  · subst e
    exact absurd hb (fun q => q.elim (nI_pos (by omega)) (nI_ge hl (by omega)))
  · subst e
    have hv : vp_in (nI l) 12 := vp_in_nI (by omega) (by decide)
    have hc : (nI l).toNatClampNeg = l := nI_clamp (by omega)
    have hml : ∀ {post : Int32 → ST → Prop}, post 1 M → wp_m_isLamp M (nI l) post := fun hp => misLamp_ok hk (fun q => q.elim (fun q => absurd q (nI_pos (by omega))) (fun q => absurd q (nI_ge hl (by omega)))) (fun _ _ _ => hp)
    refine ⟨hv, ?_⟩
    rw [hc, (hk.2.2.2.1 l hl).2.1]
    have fin : ∀ X', InvD n d X' M → ¬ x_Lamps_surveyed X' = 0 → (m_kind M l = 1 ∨ m_kind M l = 2) → wp_m_twin M (nI l) (fun q M1 => x_Lamps_twins X' l = q ∧ Inv (n + 1) X' M1) := by
      intro X' hX' hs hkd
      have e := (ISurv.at hX' hm hs hl).2.1
      rw [e]
      have hi : Inv (n + 1) X' M := Inv.up ⟨d, hX'⟩
      refine hml (ya1 ⟨hv, ?_⟩)
      rw [hc]
      refine bh (fun _ => mtwinOf_ok hm hl ⟨rfl, hi⟩) (fun k1 => ⟨hv, bh (fun _ => mtwinOf_ok hm hl ⟨rfl, hi⟩) (fun k2 => absurd hkd (fun q => q.elim k1 k2))⟩)
    refine bh (fun k1 => survey_ok hd (fun X' hX' _ hs => ⟨hv, fin X' hX' hs (Or.inl k1)⟩)) (fun k1 => ⟨hv, bh (fun k2 => survey_ok hd (fun X' hX' _ hs => ⟨hv, fin X' hX' hs (Or.inr k2)⟩)) (fun k2 => hml (ya1 ⟨hv, ?_⟩))⟩)
    rw [hc]
    exact nay k1 ⟨hv, nay k2 ⟨rfl, hu⟩⟩
