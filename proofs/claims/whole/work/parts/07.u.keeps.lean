/-! PURE: TWINS side by side; turning -/
theorem cont_iff {x : Int32} {p q : Nat} (hp : p < 32) (hq : q < 32) : (x &&& ((((1 : Int32) <<< (nI p &&& 31)) ||| ((1 : Int32) <<< (nI q &&& 31))) ^^^ (-1))) = 0 ↔ ∀ j, j < 32 → bt x j = true → j = p ∨ j = q := by
  constructor
  · intro h j hj hx
    have := congrArg (fun z => bt z j) h
    simp only [b_and, b_xor, b_or, b_bit p hp hj, b_bit q hq hj, b_m1 j hj, b_0, hx] at this
    by_cases e1 : j = p
    · exact Or.inl e1
    · by_cases e2 : j = q
      · exact Or.inr e2
      · simp [e1, e2] at this
  · intro h
    refine b_ext (fun j hj => ?_)
    rw [b_and, b_xor, b_or, b_bit p hp hj, b_bit q hq hj, b_m1 j hj, b_0]
    rcases hx : bt x j with _ | _
    · rfl
    · rcases h j hj hx with e | e
      · simp [e]
      · simp [e]
/-- place i's LAMP has its TWIN beside it -/
def MT (M : ST) (d : Nat → Nat → Nat) (K n : Nat) (r : Nat → Nat) (i : Nat) : Prop := ∀ j, j < n → twI M d K (r i) = nI (r j) → j = nxp n i ∨ j = pvp n i
/-- place i's LAMP has beside it its TWIN and those whose TWIN it is -/
def CT (M : ST) (d : Nat → Nat → Nat) (K n : Nat) (r : Nat → Nat) (i : Nat) : Prop := ∀ j, j < n → (twI M d K (r i) = nI (r j) ∨ twI M d K (r j) = nI (r i)) → j = nxp n i ∨ j = pvp n i
def KT (M : ST) (d : Nat → Nat → Nat) (K n : Nat) (r : Nat → Nat) : Prop := ∀ i, i < n → MT M d K n r i
theorem KT_ct {M : ST} {d : Nat → Nat → Nat} {K n : Nat} {r : Nat → Nat} : KT M d K n r ↔ ∀ i, i < n → CT M d K n r i := by
  constructor
  · intro h i hi j hj e
    rcases e with e | e
    · exact h i hi j hj e
    · rcases h j hj i hi e with q | q
      · exact Or.inr ((nxp_pv hj hi).mp q)
      · exact Or.inl ((nxp_pv hi hj).mpr q)
  · intro h i hi j hj e
    exact h i hi j hj (Or.inl e)
theorem PR.need {n0 K n : Nat} {d : Nat → Nat → Nat} {r : Nat → Nat} {X M : ST} {x : Int32} (hm : ML d K M) (hp : PR M K n r) {i : Nat} (hi : i < n) (hb : ∀ j, j < 32 → bt x j = decide (j < K ∧ m_isOut M (r i) = 0 ∧ m_isOut M j = 0 ∧ (twI M d K (r i) = nI j ∨ twI M d K j = nI (r i)))) : (∀ j, j < 32 → bt x j = true → j = r (pvp n i) ∨ j = r (nxp n i)) ↔ CT M d K n r i := by
  have hK := hm.1
  constructor
  · intro h j hj e
    have q := hp.2.1 j hj
    have := h (r j) (by omega) (by rw [hb (r j) (by omega)]; exact decide_eq_true ⟨q.1, (hp.2.1 i hi).2, q.2, e⟩)
    rcases this with z | z
    · exact Or.inr (hp.2.2 _ _ hj (pvp_lt hi) z)
    · exact Or.inl (hp.2.2 _ _ hj (nxp_lt hi) z)
  · intro h j hj e
    rw [hb j hj] at e
    obtain ⟨e1, e2, e3, e4⟩ := of_decide_eq_true e
    obtain ⟨p, hp1, rfl⟩ := hp.full e1 e3
    rcases h p hp1 e4 with z | z
    · exact Or.inr (by rw [z])
    · exact Or.inl (by rw [z])
theorem keepsTwins_ok {n K T : Nat} {d : Nat → Nat → Nat} {r : Nat → Nat} {X M : ST} {post : Int32 → ST → Prop} (h : InvD n d X M) (hm : ML d K M) (ht : TK K T r X M) (hT : T = cn (lv M) K) (hp1 : ∀ X', InvD n d X' M → SV X X' → ¬ x_Lamps_surveyed X' = 0 → KT M d K T r → post 1 X') (hp0 : ∀ X', InvD n d X' M → SV X X' → ¬ x_Lamps_surveyed X' = 0 → ¬ KT M d K T r → post 0 X') : wp_Told_keepsTwins X post := by
  have hK := hm.1
  refine survey_ok h (fun X' hX' sv hs => ?_)
  have ht' := ht.sv sv
  obtain ⟨t1, t2, t3, t4, t5⟩ := id ht'
  have pr := ht'.pr hT
  have go : ∀ (m i : Nat), i + m = T → (∀ j, j < i → CT M d K T r j) → wp_Told_keepsTwins_9 (fun X8 => post 0 X8) (fun X9 => post 1 X9) post (m + 1) X' (nI i) := by
    intro m
    induction m with
    | zero =>
      intro i hi hc
      have : i = T := by omega
      subst this
      exact yes (by rw [t2]; exact nI_le (Nat.le_refl _) (by omega)) (hp1 X' hX' sv hs (KT_ct.mpr hc))
    | succ m ih =>
      intro i hi hc
      have hi2 : i < T := by omega
      have hn2 := nxp_lt hi2
      have hv2 := pvp_lt hi2
      have q0 := t4 i hi2
      have q1 := t4 _ hv2
      have q2 := t4 _ hn2
      refine nay (by rw [t2]; exact nI_ge hi2 (by omega)) (before_ok t2 t1 hi2 ⟨vp_in_nI (by omega) (by decide), after_ok t2 t1 hi2 ⟨vp_in_nI (by omega) (by decide), nm ⟨vp_in_nI (by omega) (by decide), ?_⟩⟩⟩)
      rw [nI_clamp (show i < 2 ^ 31 by omega), nI_clamp (show nxp T i < 2 ^ 31 by omega), nI_clamp (show pvp T i < 2 ^ 31 by omega), q0.1, q1.1, q2.1, nI_clamp (show r i < 2 ^ 31 by omega), nI_1]
      have nd := PR.need (n0 := n) (X := X') hm pr hi2 ((ISurv.at hX' hm hs q0.2.2.1).2.2)
      refine ⟨vp_in_nI (by omega) (by decide), bh (fun c => ?_) (fun c => hp0 X' hX' sv hs (fun kt => c ?_))⟩
      · rw [cont_iff (by omega) (by omega), nd] at c
        refine ih (i + 1) (by omega) (fun j hj => ?_)
        by_cases e : j = i
        · subst e; exact c
        · exact hc j (by omega)
      · rw [cont_iff (by omega) (by omega), nd]
        exact KT_ct.mp kt i hi2
  exact ⟨_, go T 0 (by omega) (fun j hj => absurd hj (by omega))⟩
theorem areBeside_ok {k1 n i j : Nat} {r : Nat → Nat} {M : ST} {post : Int32 → ST → Prop} (hn : n ≤ 12) (hr : ∀ i, i < n → M.2.2.1 k1 i = nI (r i) ∧ r i < 2 ^ 31) (hinj : ∀ i j, i < n → j < n → r i = r j → i = j) (hi : i < n) (hj : j < n) (hij : i ≠ j) (h1 : (j = nxp n i ∨ j = pvp n i) → post 1 M) (h0 : ¬ (j = nxp n i ∨ j = pvp n i) → post 0 M) : wp_m_areBeside M k1 12 (nI n) (nI (r i)) (nI (r j)) post := by
  refine placeOf_ok hn hr (hr i hi).2 (fun z => absurd rfl (z i hi)) (fun i' hi' e _ => ?_)
  have := hinj i' i hi' hi e
  subst this
  refine placeOf_ok hn hr (hr j hj).2 (fun z => absurd rfl (z j hj)) (fun j' hj' e _ => ?_)
  have := hinj j' j hj' hj e
  subst this
  refine nm ?_
  have e0 := nI_subI (i := i') (j := j') (by omega) (by omega)
  have e1 : (nI n - 1).toInt = (n : Int) - 1 := nI_subI (i := n) (j := 1) (by omega) (by decide)
  have e2 : (1 - nI n).toInt = 1 - (n : Int) := nI_subI (i := 1) (j := n) (by decide) (by omega)
  have y1 : (1 : Int32).toInt = 1 := rfl
  have y2 : (-1 : Int32).toInt = -1 := by decide
  rw [i32, i32, i32, i32, e0, e1, e2, y1, y2]
  unfold nxp pvp at h1 h0
  refine bh (fun c => h1 ?_) (fun c1 => bh (fun c => h1 ?_) (fun c2 => bh (fun c => h1 ?_) (fun c3 => bn (fun c => h0 ?_) (fun c => h1 ?_))))
  · refine Or.inr ?_
    rw [if_pos (by omega)]; omega
  · refine Or.inl ?_
    rw [if_pos (by omega)]; omega
  · refine Or.inl ?_
    rw [if_neg (by omega)]; omega
  · intro z
    rcases z with z | z
    · split at z <;> omega
    · split at z <;> omega
  · refine Or.inr ?_
    rw [if_neg (by omega)]; omega
theorem mkeepsTwins_ok {k1 K n : Nat} {d : Nat → Nat → Nat} {r : Nat → Nat} {M : ST} {post : Int32 → ST → Prop} (hm : ML d K M) (hp : PR M K n r) (hr : ∀ i, i < n → M.2.2.1 k1 i = nI (r i)) (h1 : KT M d K n r → post 1 M) (h0 : ¬ KT M d K n r → post 0 M) : wp_m_keepsTwins M k1 12 (nI n) post := by
  have hK := hm.1
  have hn := hp.n12 hK
  have hr2 : ∀ i, i < n → M.2.2.1 k1 i = nI (r i) ∧ r i < 2 ^ 31 := fun i hi => ⟨hr i hi, by have := (hp.2.1 i hi).1; omega⟩
  have a11 : (1 : Int32) &&& 1 = 1 := by decide
  have a01 : (0 : Int32) &&& 1 = 0 := by decide
  have a10 : (1 : Int32) &&& 0 = 0 := by decide
  have a00 : (0 : Int32) &&& 0 = 0 := by decide
  have go : ∀ (m i : Nat) (s : Int32), i + m = n → ((s = 1 ∧ ∀ j, j < i → MT M d K n r j) ∨ (s = 0 ∧ ¬ KT M d K n r)) → wp_m_keepsTwins_5 k1 12 (fun M9 v10 => bz v10 ∧ post v10 M9) post (m + 1) M (nI n) s (nI i) := by
    intro m
    induction m with
    | zero =>
      intro i s hi hs
      have : i = n := by omega
      subst this
      refine yes (nI_le (Nat.le_refl _) (by omega)) ?_
      rcases hs with ⟨rfl, q⟩ | ⟨rfl, q⟩
      · exact ⟨Or.inr rfl, h1 q⟩
      · exact ⟨Or.inl rfl, h0 q⟩
    | succ m ih =>
      intro i s hi hs
      have hi2 : i < n := by omega
      have q0 := hp.2.1 i hi2
      -- the step when this place is content, and when it isn't
      have good : MT M d K n r i → wp_m_keepsTwins_5 k1 12 (fun M9 v10 => bz v10 ∧ post v10 M9) post (m + 1) M (nI n) (s &&& 1) (nI (i + 1)) := by
        intro g
        rcases hs with ⟨rfl, q⟩ | ⟨rfl, q⟩
        · rw [a11]
          refine ih (i + 1) 1 (by omega) (Or.inl ⟨rfl, fun j hj => ?_⟩)
          by_cases e : j = i
          · subst e; exact g
          · exact q j (by omega)
        · rw [a01]
          exact ih (i + 1) 0 (by omega) (Or.inr ⟨rfl, q⟩)
      have bad : ¬ MT M d K n r i → wp_m_keepsTwins_5 k1 12 (fun M9 v10 => bz v10 ∧ post v10 M9) post (m + 1) M (nI n) (s &&& 0) (nI (i + 1)) := by
        intro g
        have : s &&& 0 = 0 := by
          rcases hs with ⟨rfl, q⟩ | ⟨rfl, q⟩
          · exact a10
          · exact a00
        rw [this]
        exact ih (i + 1) 0 (by omega) (Or.inr ⟨rfl, fun kt => g (kt i hi2)⟩)
      refine nay (nI_ge hi2 (by omega)) ⟨vp_in_nI (by omega) (by decide), ?_⟩
      rw [nI_clamp (show i < 2 ^ 31 by omega), hr i hi2]
      refine mtwinOf_ok hm q0.1 ?_
      rw [nI_1]
      rcases twI_cases hm q0.1 with z | ⟨o, z1, z2, z3⟩
      · rw [z]
        exact yes (by decide) (nm (good (fun j hj e => absurd (e.symm.trans z) (nI_m1 (by have := (hp.2.1 j hj).1; omega)))))
      · rw [z3]
        refine nay (nI_pos (by omega)) ⟨vp_in_nI (by omega) (by decide), ?_⟩
        rw [nI_clamp (show o < 2 ^ 31 by omega)]
        refine bn (fun c => nm (good (fun j hj e => ?_))) (fun c => ⟨vp_in_nI (by omega) (by decide), ?_⟩)
        · have qj := hp.2.1 j hj
          have := (nI_eq (by omega) (by omega)).mp (z3.symm.trans e)
          subst this
          exact absurd qj.2 c
        · obtain ⟨j, hj, rfl⟩ := hp.full z1 c
          rw [hr i hi2]
          refine areBeside_ok hn hr2 hp.2.2 hi2 hj (fun e => z2 (by rw [e])) (fun g => ya2 (nm (good (fun j' hj' e => ?_)))) (fun g => no2 (nm (bad (fun mt => g (mt j hj z3)))))
          have qj := hp.2.1 j' hj'
          have := (nI_eq (by omega) (by omega)).mp (z3.symm.trans e)
          have := hp.2.2 j j' hj hj' this
          subst this
          exact g
  exact ⟨_, go n 0 1 (by omega) (Or.inl ⟨rfl, fun j hj => absurd hj (by omega)⟩)⟩
theorem ls_keeps (n : Nat) (X M : ST) (_ : n < 512) (h : Inv n X M) : wp_LR_keeps X (fun r X1 => wp_m_keeps M (fun q M1 => r = q ∧ Inv (n + 1) X1 M1)) := by
  have hu := h.up
  obtain ⟨d, hd⟩ := h
  obtain ⟨K, hk, hm⟩ := hd.ml
  have hK := hm.1
  obtain ⟨T, r, ht⟩ := hd.2.2.2.2.2.1.tk hm.2.1 hK
  have hT := ht.1
  refine isWhole_ok hk ht (fun q => no1 (misWhole_ok hk ht (fun _ => no1 ⟨rfl, hu⟩) (fun a b => absurd ⟨a, b⟩ q))) (fun q1 q2 => ya1 ?_)
  have pr := ht.pr q1
  have mm : ∀ {P : Int32 → ST → Prop}, (KT M d K T r → P 1 M) → (¬ KT M d K T r → P 0 M) → wp_m_keeps M P := by
    intro P p1 p0
    refine misWhole_ok hk ht (fun z => absurd ⟨q1, q2⟩ z) (fun _ _ => ya1 ?_)
    rw [ht.2.2.1]
    exact mkeepsTwins_ok hm pr (fun i hi => (ht.2.2.2.1 i hi).2.1) (fun z => ya2 (p1 z)) (fun z => no2 (p0 z))
  exact keepsTwins_ok hd hm ht q1 (fun X' hX' sv hs kt => ya2 (mm (fun _ => ⟨rfl, Inv.up ⟨d, hX'⟩⟩) (fun z => absurd kt z))) (fun X' hX' sv hs kt => no2 (mm (fun z => absurd z kt) (fun _ => ⟨rfl, Inv.up ⟨d, hX'⟩⟩)))
