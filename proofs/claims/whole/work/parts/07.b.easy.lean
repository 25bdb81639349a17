/-! PURE: calls that read, or change a little -/
theorem ls_cut (n : Nat) (X M : ST) (a1 : Int32) (_ : n < 512) (h : Inv n X M) : wp_LR_cut X a1 (fun r X1 => wp_m_cut M a1 (fun q M1 => r = q ∧ Inv (n + 1) X1 M1)) := by
  have hu := h.up
  obtain ⟨d, h1, h2, h3, h4, h5, h6, h7⟩ := h
  obtain ⟨P, p1, p2, p3, p4⟩ := id h7
  refine bh (fun c => ?_) (fun c => ?_)
  · exact bh (fun _ => ⟨rfl, hu⟩) (fun k => absurd c k)
  · refine bh (fun c2 => nm ?_) (fun c2 => ?_)
    · refine bh (fun k => absurd k c) (fun _ => bh (fun _ => nm ?_) (fun k => absurd (by rw [← p2, p3] at *; exact c2) k))
      rw [p2] at c2
      obtain ⟨j, hj, rfl⟩ := nI_of c
      have hjP : j ≤ P := by
        rcases Nat.lt_or_ge P j with q | q
        · exact absurd c2 (nI_ge q hj)
        · exact q
      exact ⟨rfl, d, (h1.fr rfl rfl rfl rfl rfl rfl rfl rfl rfl rfl), (h2.fr rfl rfl rfl rfl rfl rfl), (h3.fr rfl rfl rfl rfl rfl rfl rfl rfl), (h4.up.fr rfl rfl rfl rfl rfl rfl rfl rfl rfl rfl rfl rfl), (h5.fr rfl rfl rfl rfl rfl rfl rfl rfl rfl), (h6.fr rfl rfl rfl rfl rfl rfl), j, by omega, rfl, rfl, fun i hi => p4 i (by omega)⟩
    · exact bh (fun k => absurd k c) (fun _ => bh (fun k => absurd (by rw [p2, ← p3]; exact k) c2) (fun _ => ⟨rfl, hu⟩))
theorem ls_at (n : Nat) (X M : ST) (a1 : Int32) (_ : n < 512) (h : Inv n X M) : wp_LR_at X a1 (fun r X1 => wp_m_at M a1 (fun q M1 => r = q ∧ Inv (n + 1) X1 M1)) := by
  have hu := h.up
  obtain ⟨d, h1, h2, h3, h4, h5, h6, h7⟩ := h
  obtain ⟨T, t1, t2, t3, t4, t5⟩ := id h6
  refine rg (fun hb => ?_) (fun c0 c1 => ?_)
  · rw [t2] at hb
    exact bh (fun _ => ⟨rfl, hu⟩) (fun k => bh (fun k2 => absurd (by rw [t3] at k2; exact k2) (fun q => hb.elim k (fun q2 => (lt_nle.mp q) q2))) (fun _ => ⟨rfl, hu⟩))
  · rw [t2] at c1
    obtain ⟨j, hj, rfl, hv, hc⟩ := vp_of t1 (by decide) c0 c1
    refine ⟨hv, bh (fun k => absurd k c0) (fun _ => bh (fun _ => ⟨hv, ?_, hu⟩) (fun k => absurd (by rw [t3]; exact lt_nle.mpr c1) k))⟩
    rw [hc]
    exact (t4 j hj).1
theorem ls_clear (n : Nat) (X M : ST) (_ : n < 512) (h : Inv n X M) : wp_LR_clear X (fun r X1 => wp_m_clear M (fun q M1 => r = q ∧ Inv (n + 1) X1 M1)) := by
  obtain ⟨d, h1, h2, h3, h4, h5, h6, h7⟩ := h
  obtain ⟨T, t1, t2, t3, t4, t5⟩ := id h6
  refine nm (nm (nm (nm ⟨?_, d, (h1.fr rfl rfl rfl rfl rfl rfl rfl rfl rfl rfl), (h2.fr rfl rfl rfl rfl rfl rfl), (h3.fr rfl rfl rfl rfl rfl rfl rfl rfl), (h4.up.fr rfl rfl rfl rfl rfl rfl rfl rfl rfl rfl rfl rfl), (h5.fr rfl rfl rfl rfl rfl rfl rfl rfl rfl), ?_, (h7.fr rfl rfl rfl rfl rfl rfl rfl rfl)⟩)))
  · rw [t2, t3]
  · exact ⟨0, by decide, rfl, rfl, fun i hi => absurd hi (by omega), fun i j hi => absurd hi (by omega)⟩
theorem ls_shown (n : Nat) (X M : ST) (a1 a2 : Int32) (_ : n < 512) (h : Inv n X M) : wp_LR_shown X a1 a2 (fun r X1 => wp_m_shown M a1 a2 (fun q M1 => r = q ∧ Inv (n + 1) X1 M1)) := by
  have hu := h.up
  obtain ⟨d, h1, h2, h3, h4, h5, h6, h7⟩ := h
  obtain ⟨P, p1, p2, p3, p4⟩ := id h7
  refine rg (fun hb => ?_) (fun c0 c1 => ?_)
  · rw [p2] at hb
    exact no1 (rg (fun _ => ⟨rfl, hu⟩) (fun k0 k1 => absurd hb (fun q => q.elim k0 (fun q => k1 (by rw [p3]; exact q)))))
  · rw [p2] at c1
    obtain ⟨j, hj, rfl, hv, hc⟩ := vp_of p1 (by decide) c0 c1
    obtain ⟨o1, o2, o3, -⟩ := p4 j hj
    have hm : ∀ {A B : Prop}, B → (nI j < 0 → A) ∧ (¬ nI j < 0 → ((m_lines M ≤ nI j → A) ∧ (¬ m_lines M ≤ nI j → B))) := fun hB => rg (fun q => q.elim (fun q => absurd q c0) (fun q => absurd (by rw [p3] at q; exact q) c1)) (fun _ _ => hB)
    refine ya1 ?_
    by_cases e0 : a2 = 0
    · subst e0
      exact bh (fun _ => ⟨hv, hm (bh (fun k => absurd k (by decide)) (fun _ => bh (fun _ => bn (fun k => absurd rfl k) (fun _ => ⟨hv, by rw [hc]; exact o1, hu⟩)) (fun k => absurd (by decide) k)))⟩) (fun k => absurd rfl k)
    · refine bh (fun k => absurd k e0) (fun _ => ?_)
      by_cases e1 : a2 = 1
      · subst e1
        exact bh (fun _ => ⟨hv, hm (bh (fun k => absurd k (by decide)) (fun _ => bh (fun _ => bn (fun _ => bn (fun k => absurd rfl k) (fun _ => ⟨hv, by rw [hc]; exact o2, hu⟩)) (fun k => absurd k (by decide))) (fun k => absurd (by decide) k)))⟩) (fun k => absurd rfl k)
      · refine bh (fun k => absurd k e1) (fun _ => ?_)
        by_cases e2 : a2 = 2
        · subst e2
          exact bh (fun _ => ⟨hv, hm (bh (fun k => absurd k (by decide)) (fun _ => bh (fun _ => bn (fun _ => bn (fun _ => ⟨hv, by rw [hc]; exact o3, hu⟩) (fun k => absurd k (by decide))) (fun k => absurd k (by decide))) (fun k => absurd (by decide) k)))⟩) (fun k => absurd rfl k)
        · refine bh (fun k => absurd k e2) (fun _ => ?_)
          refine hm (bh (fun _ => ⟨rfl, hu⟩) (fun k0 => bh (fun k2 => ?_) (fun _ => ⟨rfl, hu⟩)))
          exfalso
          rw [Int32.lt_iff_toInt_lt] at k0
          rw [Int32.le_iff_toInt_le] at k2
          have z0 : ¬ a2.toInt = 0 := fun e => e0 (Int32.toInt_inj.mp e)
          have z1 : ¬ a2.toInt = 1 := fun e => e1 (Int32.toInt_inj.mp e)
          have z2 : ¬ a2.toInt = 2 := fun e => e2 (Int32.toInt_inj.mp e)
          have y0 : (0 : Int32).toInt = 0 := rfl
          have y2 : (2 : Int32).toInt = 2 := rfl
          omega
