theorem afterLay {n : Nat} {X M : ST} {d : Nat → Nat → Nat} {c : Nat → Int64} {ll nn : Nat} (h : InvD n d X M) {P : ST → Prop} (hp : ∀ M1, Inv (n + 1) (xs_Told_count (xs_Lamps_surveyed (xs_Town_reckoned (xLay X c ll nn) 0) 0) 0) M1 → P M1) : ∀ M7 : ST, M7 = ms_told (mLay M c ll nn) 0 → wp_m_work M7 (fun M8 => P M8) := by
  obtain ⟨h1, h2, h3, h4, h5, h6, h7⟩ := h
  refine nm ?_
  have hl := layLane (c := c) (ll := ll) (nn := nn) h1
  obtain ⟨L', hL'⟩ := hl.m
  refine work_ok (L := L') hL' (fun f d' hd hr => hp _ ?_)
  exact afterLanes hl (h2.fr rfl rfl rfl rfl rfl rfl) (h4.fr rfl rfl rfl rfl rfl rfl rfl rfl rfl rfl rfl rfl) (h7.fr rfl rfl rfl rfl rfl rfl rfl rfl) hd hr
theorem ls_lay (n : Nat) (X M : ST) (a1 a2 a3 a4 : Int32) (_ : n < 512) (h : Inv n X M) : wp_LR_lay X a1 a2 a3 a4 (fun r X1 => wp_m_lay M a1 a2 a3 a4 (fun q M1 => r = q ∧ Inv (n + 1) X1 M1)) := by
  have hu := h.up
  obtain ⟨d, hd⟩ := h
  obtain ⟨h1, h2, h3, h4, h5, h6, h7⟩ := id hd
  obtain ⟨L, l1, l2, l3, l4⟩ := id h1
  refine rg (fun hb => ?_) (fun c0 c1 => ?_)
  · exact no1 (rg (fun _ => no1 ⟨rfl, hu⟩) (fun u0 u1 => absurd hb (fun q => q.elim u0 u1)))
  · obtain ⟨r, hr, rfl, hv, hc⟩ := row_of c0 c1
    have hm : ∀ {A B : Prop}, B → (nI r < 0 → A) ∧ (¬ nI r < 0 → ((4 ≤ nI r → A) ∧ (¬ 4 ≤ nI r → B))) := fun hB => rg (fun q => absurd q (fun q => q.elim c0 c1)) (fun _ _ => hB)
    obtain ⟨r1, r2, r3⟩ := h2 r hr
    refine ya1 ⟨hv, ?_⟩
    rw [hc, r2]
    refine bn (fun b => ?_) (fun b => ?_)
    · rcases r3 with r3 | ⟨z, hz, r3, r4⟩
      · exact absurd r3 b
      have hz0 : (0 : Int32) ≤ nI z := nI_pos' (by omega)
      refine no2 ⟨hv, ?_⟩
      rw [r1]
      refine bh (fun k1 => ?_) (fun k1 => ?_)
      · have hm2 : ∀ {A B C : Prop}, B → vp_in (nI r) 4 ∧ ((0 ≤ m_rowSize M (nI r).toNatClampNeg → (vp_in (nI r) 4 ∧ ((m_rowKind M (nI r).toNatClampNeg = 1 → B) ∧ (¬ m_rowKind M (nI r).toNatClampNeg = 1 → A)))) ∧ (¬ 0 ≤ m_rowSize M (nI r).toNatClampNeg → C)) := by
          intro A B C hB
          refine ⟨hv, yes (by rw [hc, r3]; exact hz0) ⟨hv, yes (by rw [hc]; exact k1) hB⟩⟩
        refine bh (fun k2 => hm (ya1 (hm2 (yes k2 ?_)))) (fun k2 => bh (fun k3 => hm (ya1 (hm2 (nay k2 (yes k3 ?_))))) (fun k3 => ⟨hv, ?_⟩))
        · exact ⟨rfl, hu⟩
        · exact ⟨rfl, hu⟩
        obtain ⟨nn, hnn, rfl⟩ := nI_of k2
        obtain ⟨ff, hff, rfl⟩ := nI_of k3
        rw [r2, r3]
        have s1 : (nI z - nI ff).toInt = (z : Int) - ff := sub_toInt (by omega) hff
        have s2 : (nI z - nI nn).toInt = (z : Int) - nn := sub_toInt (by omega) hnn
        have t1 := nI_toInt hnn
        have t2 := nI_toInt hff
        have t3 := nI_toInt (n := z) (by omega)
        have t4 := nI_toInt (n := L) (by omega)
        -- the model's two tests of the ROW are the class's one
        have hrow : ∀ {A P : Prop}, (¬ (nI z - nI ff) < nI nn → P) → ((nI z - nI ff) < nI nn → A) → vp_in (nI r) 4 ∧ ((m_rowSize M (nI r).toNatClampNeg < nI nn → A) ∧ (¬ m_rowSize M (nI r).toNatClampNeg < nI nn → (vp_in (nI r) 4 ∧ (((m_rowSize M (nI r).toNatClampNeg - nI nn) < nI ff → A) ∧ (¬ (m_rowSize M (nI r).toNatClampNeg - nI nn) < nI ff → P))))) := by
          intro A P hP hN
          rw [hc, r3]
          simp only [Int32.lt_iff_toInt_lt, s1, s2, t1, t2, t3] at hP hN ⊢
          refine ⟨hv, fun q => hN (by omega), fun q => ⟨hv, fun q2 => hN (by omega), fun q2 => hP (by omega)⟩⟩
        refine bh (fun k4 => ?_) (fun k4 => ?_)
        · refine hm (ya1 (hm2 (nay k2 (nay k3 (hrow (fun q => absurd k4 q) (fun _ => ?_))))))
          exact ⟨rfl, hu⟩
        · have hfn : ff + nn ≤ z := by
            rw [Int32.lt_iff_toInt_lt, s1, t1] at k4
            omega
          have hrow2 : ∀ {A P : Prop}, P → vp_in (nI r) 4 ∧ ((m_rowSize M (nI r).toNatClampNeg < nI nn → A) ∧ (¬ m_rowSize M (nI r).toNatClampNeg < nI nn → (vp_in (nI r) 4 ∧ (((m_rowSize M (nI r).toNatClampNeg - nI nn) < nI ff → A) ∧ (¬ (m_rowSize M (nI r).toNatClampNeg - nI nn) < nI ff → P))))) := fun hP => hrow (fun _ => hP) (fun q => absurd q k4)
          refine bh (fun k5 => hm (ya1 (hm2 (nay k2 (nay k3 (hrow2 (yes k5 ?_))))))) (fun k5 => ?_)
          · exact ⟨rfl, hu⟩
          obtain ⟨ll, hll, rfl⟩ := nI_of k5
          rw [l2]
          have s3 : (nI L - nI ll).toInt = (L : Int) - ll := sub_toInt (by omega) hll
          have s4 : (nI L - nI nn).toInt = (L : Int) - nn := sub_toInt (by omega) hnn
          have t5 := nI_toInt hll
          refine bh (fun k6 => ?_) (fun k6 => ?_)
          · rw [Int32.le_iff_toInt_le, s3, t1] at k6
            refine lay_ok (c := fun i => x_cells X r (ff + i)) hr (by omega) (by omega) (fun i hi => rfl) (nm (nm (nm (nm ?_))))
            refine hm (ya1 (hm2 (nay k2 (nay k3 (hrow2 (nay k5 (nay ?_ (yes ?_ ?_))))))))
            · rw [l3, Int32.lt_iff_toInt_lt, t1, t4]; omega
            · rw [l3, Int32.le_iff_toInt_le, t5, s4]; omega
            · exact mlay_ok (c := fun i => x_cells X r (ff + i)) hr (by omega) (by omega) (fun i hi => (r4 (ff + i) (by omega)).symm) (afterLay hd (fun M1 hM => ⟨rfl, hM⟩))
          · rw [Int32.le_iff_toInt_le, s3, t1] at k6
            refine hm (ya1 (hm2 (nay k2 (nay k3 (hrow2 (nay k5 (bh (fun _ => ?_) (fun k7 => nay ?_ ?_))))))))
            · exact ⟨rfl, hu⟩
            · rw [l3, Int32.lt_iff_toInt_lt, t1, t4] at k7
              rw [l3, Int32.le_iff_toInt_le, t5, s4]; omega
            · exact ⟨rfl, hu⟩
      · refine hm (ya1 ⟨hv, ?_⟩)
        rw [hc, r3]
        exact yes hz0 ⟨hv, nay k1 ⟨rfl, hu⟩⟩
    · refine ya2 (hm (ya1 ⟨hv, ?_⟩))
      rw [hc, b]
      exact nay (by decide) ⟨rfl, hu⟩
theorem start_inv (f : Nat → Int32) (hf : ∀ i, i < 4 → f i = -1) : wp_m_init (fun _ => 0, fun _ => 0, fun _ _ => 0, fun _ _ => 0) (fun M => Inv 0 (X0 f) M) := by
  have two : ∀ (M : ST) (f g : Nat → Int32), ms_rowSize (ms_rowSize M f) g = ms_rowSize M g := fun M f g => sA_sA _ _ _ _
  have go : ∀ (m i : Nat) (g : Nat → Int32) {K : ST → Prop} {post : ST → Prop} {M : ST}, i + m = 4 → (∀ j, j < i → g j = -1) → (∀ g, (∀ j, j < 4 → g j = -1) → K (ms_rowSize M g)) → wp_m_init_247 K post (m + 1) (ms_rowSize M g) (nI i) := by
    intro m
    induction m with
    | zero =>
      intro i g K post M hi hg hK
      exact yes (nI_le (a := 4) (by omega) (by omega)) (hK g (fun j hj => hg j (by omega)))
    | succ m ih =>
      intro i g K post M hi hg hK
      refine nay (nI_ge (b := 4) (by omega) (by decide)) ⟨vp_in_nI (by omega) (by decide), nm ?_⟩
      rw [two, nI_clamp (by omega), nI_1]
      refine ih (i + 1) _ (by omega) (fun j hj => ?_) hK
      have e0 : m_rowSize (ms_rowSize M g) = g := gA_sA _ _ _
      rw [e0]
      by_cases e : j = i
      · subst e; exact pk_us
      · rw [pk_un e]; exact hg j (by omega)
  refine ⟨5, ?_⟩
  have e : ms_rowSize (fun _ => 0, fun _ => 0, fun _ _ => 0, fun _ _ => 0) (m_rowSize (fun _ => 0, fun _ => 0, fun _ _ => 0, fun _ _ => 0)) = (fun _ => 0, fun _ => 0, fun _ _ => 0, fun _ _ => 0) := sA_self _ _
  rw [← e]
  refine go 4 0 _ (by omega) (fun j hj => absurd hj (by omega)) (fun g hg => ?_)
  have hl : ∀ (M : ST), m_lanes M = 0 → MLane M 0 := fun M hM => ⟨by decide, hM, fun i hi => absurd hi (by omega)⟩
  refine work_ok (hl _ rfl) (fun w d hd hr => ⟨d, ?_, ?_, ⟨hd, fun a b ha hb => hr a b ha hb, fun a ha q => ?_⟩, ?_, ⟨Or.inl rfl, fun q => absurd rfl q⟩, ?_, ?_⟩)
  · exact ⟨0, by decide, rfl, rfl, fun i hi => absurd hi (by omega)⟩
  · intro r hr
    exact ⟨rfl, (hf r hr).trans (hg r hr).symm, Or.inl (hg r hr)⟩
  · exact absurd q (by
      show ¬ (0 : Int64).toBitVec.getLsbD a = true
      rw [show (0 : Int64).toBitVec = 0#64 from rfl, BitVec.getLsbD_zero]
      decide)
  · refine ⟨0, by decide, rfl, rfl, fun l hl => absurd hl (by omega), fun l _ _ => rfl, fun l hl => ?_⟩
    show bt 0 l = _
    rw [b_0, decide_eq_false (fun q => absurd q.1 (by omega))]
  · exact ⟨0, by decide, rfl, rfl, fun i hi => absurd hi (by omega), fun i j hi => absurd hi (by omega)⟩
  · exact ⟨0, by decide, rfl, rfl, fun i hi => absurd hi (by omega)⟩
