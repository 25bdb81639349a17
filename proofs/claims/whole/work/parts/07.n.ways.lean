/-! PURE: WAYS that are asked for -/
theorem s_l64 : ∀ n, n < 40 → (((nI n).toInt64 &&& 63).toBitVec.smod 64).toNat = n := by decide +kernel
theorem and64 (y : Int64) : (y &&& 1) = 0 ↔ y.toBitVec.getLsbD 0 = false := by
  constructor
  · intro h
    have := congrArg (fun z => z.toBitVec.getLsbD 0) h
    simp only [Int64.toBitVec_and, BitVec.getLsbD_and] at this
    have e1 : (1 : Int64).toBitVec.getLsbD 0 = true := by decide
    have e2 : (0 : Int64).toBitVec.getLsbD 0 = false := by decide
    rw [e1, e2, Bool.and_true] at this
    exact this
  · intro h
    apply Int64.toBitVec_inj.mp
    apply BitVec.eq_of_getLsbD_eq
    intro i hi
    rw [Int64.toBitVec_and, BitVec.getLsbD_and]
    have e3 : ∀ i, i < 64 → (1 : Int64).toBitVec.getLsbD i = decide (i = 0) := by decide +kernel
    rw [e3 i hi]
    by_cases e : i = 0
    · subst e; rw [h]; rfl
    · rw [decide_eq_false e, Bool.and_false]
      exact BitVec.getLsbD_zero.symm
theorem isIn64 (x : Int64) {a : Nat} (ha : a < 40) : ((x >>> ((nI a).toInt64 &&& 63)) &&& 1) = 0 ↔ x.toBitVec.getLsbD a = false := by
  rw [and64, Int64.toBitVec_shiftRight]
  show (x.toBitVec.sshiftRight (((nI a).toInt64 &&& 63).toBitVec.smod 64).toNat).getLsbD 0 = false ↔ _
  rw [s_l64 a ha, BitVec.getLsbD_sshiftRight]
  have : a < 64 := by omega
  simp [this]
theorem or64 (x : Int64) {a b : Nat} (ha : a < 40) (hb : b < 40) : (x ||| ((1 : Int64) <<< ((nI a).toInt64 &&& 63))).toBitVec.getLsbD b = (x.toBitVec.getLsbD b || decide (b = a)) := by
  rw [Int64.toBitVec_or, BitVec.getLsbD_or, Int64.toBitVec_shiftLeft]
  show (_ || ((1 : Int64).toBitVec <<< (((nI a).toInt64 &&& 63).toBitVec.smod 64).toNat).getLsbD b) = _
  rw [s_l64 a ha, BitVec.getLsbD_shiftLeft]
  have e3 : ∀ i, i < 64 → (1 : Int64).toBitVec.getLsbD i = decide (i = 0) := by decide +kernel
  rw [e3 _ (by omega)]
  congr 1
  rcases Nat.lt_or_ge b a with h | h
  · rw [decide_eq_true h, decide_eq_false (show ¬ b = a by omega)]; simp
  · rw [decide_eq_false (show ¬ b < a by omega), decide_eq_true (show b < 64 by omega)]
    by_cases e : b = a
    · subst e; simp
    · rw [decide_eq_false e, decide_eq_false (show ¬ b - a = 0 by omega)]; rfl
/-- only WAYS may differ -/
def SW (X X' : ST) : Prop := X'.1 = X.1 ∧ (∀ k, k ≠ 0 → X'.2.1 k = X.2.1 k) ∧ (∀ k, (k < 100 ∨ 140 ≤ k) → X'.2.2.1 k = X.2.2.1 k) ∧ X'.2.2.2 = X.2.2.2
/-- only WAYS and what a survey writes may differ -/
def SV (X X' : ST) : Prop := (∀ k, k ≠ 3 → X'.1 k = X.1 k) ∧ (∀ k, k ≠ 0 → X'.2.1 k = X.2.1 k) ∧ (∀ k, k ≠ 24 → k ≠ 25 → k < 100 → X'.2.2.1 k = X.2.2.1 k) ∧ X'.2.2.2 = X.2.2.2
theorem SW.sv {X X' : ST} (h : SW X X') : SV X X' := ⟨fun k _ => congrFun h.1 k, h.2.1, fun k _ _ hk => h.2.2.1 k (Or.inl hk), h.2.2.2⟩
theorem SV.rf (X : ST) : SV X X := ⟨fun _ _ => rfl, fun _ _ => rfl, fun _ _ _ _ => rfl, rfl⟩
theorem SV.tr {X Y Z : ST} (h : SV X Y) (g : SV Y Z) : SV X Z := ⟨fun k hk => (g.1 k hk).trans (h.1 k hk), fun k hk => (g.2.1 k hk).trans (h.2.1 k hk), fun k a b c => (g.2.2.1 k a b c).trans (h.2.2.1 k a b c), g.2.2.2.trans h.2.2.2⟩
theorem SV.lane {X X' M : ST} (s : SV X X') (h : ILane X M) : ILane X' M := h.fr (s.1 0 (by decide)) (s.2.2.1 15 (by decide) (by decide) (by decide)) (s.2.2.1 16 (by decide) (by decide) (by decide)) (s.2.2.1 17 (by decide) (by decide) (by decide)) (s.2.2.1 18 (by decide) (by decide) (by decide)) rfl rfl rfl rfl rfl
theorem SV.row {X X' M : ST} (s : SV X X') (h : IRow X M) : IRow X' M := h.fr (s.2.2.1 13 (by decide) (by decide) (by decide)) (s.2.2.1 14 (by decide) (by decide) (by decide)) (funext fun i => congrFun s.2.2.2 _) rfl rfl rfl
theorem SV.lamp {n : Nat} {X X' M : ST} (s : SV X X') (h : ILamp n X M) : ILamp n X' M := h.fr (s.1 2 (by decide)) (s.2.2.1 20 (by decide) (by decide) (by decide)) (s.2.2.1 21 (by decide) (by decide) (by decide)) (s.2.2.1 23 (by decide) (by decide) (by decide)) (s.2.2.1 22 (by decide) (by decide) (by decide)) (s.1 1 (by decide)) rfl rfl rfl rfl rfl rfl
theorem SV.told {X X' M : ST} (s : SV X X') (h : ITold X M) : ITold X' M := h.fr (s.1 4 (by decide)) (s.2.2.1 27 (by decide) (by decide) (by decide)) rfl rfl rfl rfl
theorem SV.proof {X X' M : ST} (s : SV X X') (h : IProof X M) : IProof X' M := h.fr (s.1 13 (by decide)) (s.2.2.1 41 (by decide) (by decide) (by decide)) (s.2.2.1 42 (by decide) (by decide) (by decide)) (s.2.2.1 43 (by decide) (by decide) (by decide)) rfl rfl rfl rfl
theorem waysFrom_ok {n a : Nat} {X M : ST} {d : Nat → Nat → Nat} {post : Nat → ST → Prop} (h : InvD n d X M) (ha : a < 40) (hp : ∀ X', InvD n d X' M → SW X X' → (∀ b, b < 40 → x_ways X' a b = nI (cv (d a b))) → post a X') : wp_Town_waysFrom X (nI a) post := by
  obtain ⟨h1, h2, h3, h4, h5, h6, h7⟩ := id h
  have hv : vp_in (nI a) 40 := vp_in_nI ha (by decide)
  have hc : (nI a).toNatClampNeg = a := nI_clamp (by omega)
  unfold wp_Town_waysFrom
  rw [hc]
  refine bn (fun c => ⟨hv, hp X h ⟨rfl, fun _ _ => rfl, fun _ _ => rfl, rfl⟩ ?_⟩) (fun c => ⟨hv, ?_⟩)
  · rw [isIn64 _ ha] at c
    exact h3.2.2 a ha (by
      rcases hb : (x_Town_reckoned X).toBitVec.getLsbD a with _ | _
      · exact absurd hb c
      · rfl)
  · obtain ⟨L, hL⟩ := h1.xl
    refine reckon_ok hL h3.1 ha (fun f hf => nm ⟨hv, ?_⟩)
    have sw : SW X (xs_Town_reckoned (ks_sA X (a + 100) f) (x_Town_reckoned X ||| ((1 : Int64) <<< ((nI a).toInt64 &&& 63)))) := ⟨rfl, fun k hk => ks_up_ne _ _ hk, fun k hk => ks_up_ne _ _ (by omega), rfl⟩
    have sv := sw.sv
    have hw : ∀ a', x_ways (xs_Town_reckoned (ks_sA X (a + 100) f) (x_Town_reckoned X ||| ((1 : Int64) <<< ((nI a).toInt64 &&& 63)))) a' = if a' = a then f else x_ways X a' := by
      intro a'
      show ks_up X.2.2.1 (a + 100) f (a' + 100) = _
      by_cases e : a' = a
      · subst e; rw [ks_up_eq, if_pos rfl]
      · rw [ks_up_ne _ _ (by omega), if_neg e]
    refine hp _ ⟨sv.lane h1, sv.row h2, ⟨h3.1, h3.2.1, fun a' ha' hb b hb' => ?_⟩, sv.lamp h4, ?_, sv.told h6, sv.proof h7⟩ sw (fun b hb => ?_)
    · rw [hw]
      by_cases e : a' = a
      · subst e; rw [if_pos rfl]; exact hf b hb'
      · rw [if_neg e]
        refine h3.2.2 a' ha' ?_ b hb'
        have hb2 : (x_Town_reckoned X ||| ((1 : Int64) <<< ((nI a).toInt64 &&& 63))).toBitVec.getLsbD a' = true := hb
        rw [or64 _ ha ha', decide_eq_false e, Bool.or_false] at hb2
        exact hb2
    · exact h5.fr rfl (funext fun i => ks_up_ne _ _ (by omega)) rfl rfl rfl rfl rfl rfl rfl
    · rw [hw, if_pos rfl]; exact hf b hb
theorem cv_far {d : Nat → Nat → Nat} {E : Nat → Nat → Nat → Prop} (hE : GE E) (hd : IsD E d) {a b : Nat} (ha : a < 40) (hb : b < 40) : nI (cv (d a b)) = 1000000 ↔ d a b = FARN := by
  unfold cv
  by_cases e : d a b = FARN
  · rw [if_pos e]; exact ⟨fun _ => e, fun _ => rfl⟩
  · rw [if_neg e]
    have := d_39000 hE hd ha hb e
    refine ⟨fun q => ?_, fun q => absurd q e⟩
    have := (nI_eq (b := 1000000) (by omega) (by decide)).mp q
    omega
theorem ls_way (n : Nat) (X M : ST) (a1 a2 : Int32) (_ : n < 512) (h : Inv n X M) : wp_LR_way X a1 a2 (fun r X1 => wp_m_way M a1 a2 (fun q M1 => r = q ∧ Inv (n + 1) X1 M1)) := by
  have hu := h.up
  obtain ⟨d, hd⟩ := h
  have hE := GE_Edg M
  refine cross_ok (fun hb => no2 (mcross0 hb (no2 ⟨rfl, hu⟩))) (fun a ha e => ya2 ?_)
  subst e
  refine cross_ok (fun hb => no1 (mcross1 ha (ya2 (mcross0 hb (no1 ⟨rfl, hu⟩))))) (fun b hb e => ya1 ?_)
  subst e
  refine waysFrom_ok hd ha (fun X' hX' _ hw => ⟨vp_in_nI hb (by decide), nm ?_⟩)
  have h3 := hX'.2.2.1
  rw [nI_clamp (by omega), hw b hb]
  have hm : ∀ {P : Int32 → ST → Prop}, (d a b = FARN → P (-10) M) → (d a b ≠ FARN → P (nI (d a b)) M) → wp_m_way M (nI a) (nI b) P := by
    intro P p1 p2
    refine mcross1 ha (ya2 (mcross1 hb (ya1 ?_)))
    rw [ixC]
    refine ⟨vp_in_nI (by omega) (by decide), nm ?_⟩
    rw [nI_clamp (by omega), h3.2.1 a b ha hb]
    have hF : FARN = 1000000000 := rfl
    have := (h3.1.2.2 a b ha hb).1
    refine bn (fun c => p2 (fun q => c (by rw [q]; rfl))) (fun c => p1 ?_)
    have := (nI_eq (b := 1000000000) (by omega) (by decide)).mp c
    omega
  have hi : Inv (n + 1) X' M := Inv.up ⟨d, hX'⟩
  refine bn (fun c => ?_) (fun c => ?_)
  · rw [cv_far hE h3.1 ha hb] at c
    refine hm (fun q => absurd q c) (fun _ => ⟨?_, hi⟩)
    unfold cv
    rw [if_neg c]
  · rw [cv_far hE h3.1 ha hb] at c
    exact hm (fun _ => ⟨rfl, hi⟩) (fun q => absurd c q)
