theorem rgo {p : Int32} {A B : Prop} (hA : (p < 1 ∨ 6 < p) → A) (hB : ¬ p < 1 → ¬ 6 < p → B) : (p < 1 → A) ∧ (¬ p < 1 → ((6 < p → A) ∧ (¬ 6 < p → B))) := ⟨fun h => hA (Or.inl h), fun h => ⟨fun h2 => hA (Or.inr h2), fun h2 => hB h h2⟩⟩
theorem rgm {p : Int32} {A B : Prop} (hA : (p < 1 ∨ 6 < p) → A) (hB : ¬ p < 1 → ¬ 6 < p → B) : (p < 1 → A) ∧ (¬ p < 1 → ((p ≤ 6 → B) ∧ (¬ p ≤ 6 → A))) := ⟨fun h => hA (Or.inl h), fun h => ⟨fun h2 => hB h (le_nlt.mp h2), fun h2 => hA (Or.inr (by rw [lt_nle]; exact h2))⟩⟩
theorem op_of {p : Int32} (h1 : ¬ p < 1) (h2 : ¬ 6 < p) : ∃ o, 1 ≤ o ∧ o ≤ 6 ∧ p = nI o := by
  rw [Int32.lt_iff_toInt_lt] at h1 h2
  have y1 : (1 : Int32).toInt = 1 := rfl
  have y6 : (6 : Int32).toInt = 6 := rfl
  obtain ⟨j, hj, rfl⟩ := nI_of (x := p) (by rw [Int32.lt_iff_toInt_lt]; have y0 : (0 : Int32).toInt = 0 := rfl; omega)
  rw [nI_toInt hj] at h1 h2
  exact ⟨j, by omega, by omega, rfl⟩
theorem proofW (X : ST) (f g h : Nat → Int32) : x_ways (ks_sA (ks_sA (ks_sA X 41 f) 42 g) 43 h) = x_ways X := ((ways_sA (k := 43) (by decide) _ _).trans (ways_sA (k := 42) (by decide) _ _)).trans (ways_sA (k := 41) (by decide) _ _)
theorem proofG (X : ST) (f g h : Nat → Int32) : x_gaps (ks_sA (ks_sA (ks_sA X 41 f) 42 g) 43 h) = x_gaps X := ((gaps_sA (k := 43) (by decide) _ _).trans (gaps_sA (k := 42) (by decide) _ _)).trans (gaps_sA (k := 41) (by decide) _ _)
theorem ls_alter (n : Nat) (X M : ST) (a1 a2 a3 a4 : Int32) (_ : n < 512) (h : Inv n X M) : wp_LR_alter X a1 a2 a3 a4 (fun r X1 => wp_m_alter M a1 a2 a3 a4 (fun q M1 => r = q ∧ Inv (n + 1) X1 M1)) := by
  have hu := h.up
  obtain ⟨d, h1, h2, h3, h4, h5, h6, h7⟩ := h
  obtain ⟨P, p1, p2, p3, p4⟩ := id h7
  refine rg (fun hb => ?_) (fun c0 c1 => ?_)
  · rw [p2] at hb
    exact no2 (rg (fun _ => ⟨rfl, hu⟩) (fun k0 k1 => absurd hb (fun q => q.elim k0 (fun q => k1 (by rw [p3]; exact q)))))
  · rw [p2] at c1
    obtain ⟨j, hj, rfl, hv, hc⟩ := vp_of p1 (by decide) c0 c1
    have hm : ∀ {A B : Prop}, B → (nI j < 0 → A) ∧ (¬ nI j < 0 → ((m_lines M ≤ nI j → A) ∧ (¬ m_lines M ≤ nI j → B))) := fun hB => rg (fun q => q.elim (fun q => absurd q c0) (fun q => absurd (by rw [p3] at q; exact q) c1)) (fun _ _ => hB)
    refine ya2 (rgo (fun hb => ?_) (fun o1 o2 => ?_))
    · exact no1 (hm (rgm (fun _ => ⟨rfl, hu⟩) (fun k1 k2 => absurd hb (fun q => q.elim k1 k2))))
    · refine ya1 ⟨hv, nm ⟨hv, nm ⟨hv, nm (hm (rgm (fun q => absurd q (fun q => q.elim o1 o2)) (fun _ _ => ⟨hv, nm ⟨hv, nm ⟨hv, nm ⟨rfl, d, (h1.fr rfl rfl rfl rfl rfl rfl rfl rfl rfl rfl), (h2.fr rfl rfl rfl rfl rfl rfl), (h3.fr rfl (proofW _ _ _ _) rfl rfl rfl rfl rfl rfl), (h4.up.fr rfl rfl rfl rfl rfl rfl rfl rfl rfl rfl rfl rfl), (h5.fr rfl (proofG _ _ _ _) rfl rfl rfl rfl rfl rfl rfl), (h6.fr rfl rfl rfl rfl rfl rfl), P, p1, p2, p3, fun i hi => ?_⟩⟩⟩⟩)))⟩⟩⟩
      obtain ⟨q1, q2, q3, q4⟩ := p4 i hi
      rw [hc]
      show upd (x_proof_ops X) j a2 i = upd (m_op M) j a2 i ∧ upd (x_proof_as X) j a3 i = upd (m_left M) j a3 i ∧ upd (x_proof_bs X) j a4 i = upd (m_right M) j a4 i ∧ ∃ o, 1 ≤ o ∧ o ≤ 6 ∧ upd (m_op M) j a2 i = nI o
      by_cases e : i = j
      · subst e
        rw [pk_us, pk_us, pk_us, pk_us, pk_us, pk_us]
        exact ⟨rfl, rfl, rfl, op_of o1 o2⟩
      · rw [pk_un e, pk_un e, pk_un e, pk_un e, pk_un e, pk_un e]
        exact ⟨q1, q2, q3, q4⟩
theorem ls_line (n : Nat) (X M : ST) (a1 a2 a3 : Int32) (_ : n < 512) (h : Inv n X M) : wp_LR_line X a1 a2 a3 (fun r X1 => wp_m_line M a1 a2 a3 (fun q M1 => r = q ∧ Inv (n + 1) X1 M1)) := by
  have hu := h.up
  obtain ⟨d, h1, h2, h3, h4, h5, h6, h7⟩ := h
  obtain ⟨P, p1, p2, p3, p4⟩ := id h7
  refine rgo (fun hb => ?_) (fun o1 o2 => ?_)
  · exact no1 (rgm (fun _ => ⟨rfl, hu⟩) (fun k1 k2 => absurd hb (fun q => q.elim k1 k2)))
  · have hm : ∀ {A B : Prop}, B → (a1 < 1 → A) ∧ (¬ a1 < 1 → ((a1 ≤ 6 → B) ∧ (¬ a1 ≤ 6 → A))) := fun hB => rgm (fun q => absurd q (fun q => q.elim o1 o2)) (fun _ _ => hB)
    refine ya1 (bh (fun c => ?_) (fun c => ?_))
    · rw [p2] at c
      have hP : P < 400 := by
        rcases Nat.lt_or_ge P 400 with q | q
        · exact q
        · exact absurd c (nI_nlt q (by omega))
      have hv : vp_in (nI P) 400 := vp_in_nI hP (by decide)
      have hc : (nI P).toNatClampNeg = P := nI_clamp (by omega)
      refine bh (fun k => absurd k (by rw [p2]; exact nI_ge hP (by decide))) (fun _ => ?_)
      unfold wp_proof_write
      rw [p2]
      refine ⟨hv, nm ⟨hv, nm ⟨hv, nm (nm (hm (bn (fun _ => nm ?_) (fun k => absurd ((nI_eq (a := P) (b := 400) (by omega) (by decide)).mp (p3.symm.trans k)) (by omega)))))⟩⟩⟩
      have e1 : m_lines M + 1 = nI (P + 1) := by rw [p3]; exact nI_1 P
      have e2 : (m_lines M + 1) - 1 = nI P := by rw [e1]; exact nI_pred P
      show wp_m_alter (ms_lines M (m_lines M + 1)) ((m_lines M + 1) - 1) a1 a2 a3 _
      rw [e2, e1]
      refine rg (fun q => q.elim (fun q => absurd q (nI_pos (by omega))) (fun q => absurd q (nI_ge (by omega) (by omega)))) (fun _ _ => hm ⟨hv, nm ⟨hv, nm ⟨hv, nm (bn (fun k => absurd rfl k) (fun _ => ⟨?_, d, (h1.fr rfl rfl rfl rfl rfl rfl rfl rfl rfl rfl), (h2.fr rfl rfl rfl rfl rfl rfl), (h3.fr rfl (proofW _ _ _ _) rfl rfl rfl rfl rfl rfl), (h4.up.fr rfl rfl rfl rfl rfl rfl rfl rfl rfl rfl rfl rfl), (h5.fr rfl (proofG _ _ _ _) rfl rfl rfl rfl rfl rfl rfl), (h6.fr rfl rfl rfl rfl rfl rfl), P + 1, by omega, ?_, rfl, fun i hi => ?_⟩))⟩⟩⟩)
      · show x_proof_count X + 1 = nI (P + 1)
        rw [p2]; exact nI_1 P
      · show x_proof_count X + 1 = nI (P + 1)
        rw [p2]; exact nI_1 P
      · rw [hc]
        show upd (x_proof_ops X) P a1 i = upd (m_op M) P a1 i ∧ upd (x_proof_as X) P a2 i = upd (m_left M) P a2 i ∧ upd (x_proof_bs X) P a3 i = upd (m_right M) P a3 i ∧ ∃ o, 1 ≤ o ∧ o ≤ 6 ∧ upd (m_op M) P a1 i = nI o
        by_cases e : i = P
        · subst e
          rw [pk_us, pk_us, pk_us, pk_us, pk_us, pk_us]
          exact ⟨rfl, rfl, rfl, op_of o1 o2⟩
        · rw [pk_un e, pk_un e, pk_un e, pk_un e, pk_un e, pk_un e]
          exact p4 i (by omega)
    · rw [p2] at c
      have hP : P = 400 := by
        rcases Nat.lt_or_ge P 400 with q | q
        · exact absurd (nI_lt q (by decide)) c
        · omega
      subst hP
      exact hm (bn (fun k => absurd p3 k) (fun _ => ⟨rfl, hu⟩))
theorem lampW (X : ST) (f : Nat → Int32) : x_ways (xs_Lamps_prices X f) = x_ways X := ways_sA (by decide) _ _
theorem lampG (X : ST) (f : Nat → Int32) : x_gaps (xs_Lamps_prices X f) = x_gaps X := gaps_sA (by decide) _ _
theorem ls_price (n : Nat) (X M : ST) (a1 a2 : Int32) (_ : n < 512) (h : Inv n X M) : wp_LR_price X a1 a2 (fun r X1 => wp_m_price M a1 a2 (fun q M1 => r = q ∧ Inv (n + 1) X1 M1)) := by
  have hu := h.up
  obtain ⟨d, h1, h2, h3, h4, h5, h6, h7⟩ := h
  obtain ⟨K, k1, k2, k3, k4, k5, k6⟩ := id h4
  refine rg (fun hb => ?_) (fun c0 c1 => ?_)
  · rw [k2] at hb
    exact no2 (rg (fun _ => no2 ⟨rfl, hu⟩) (fun u0 u1 => absurd hb (fun q => q.elim u0 (fun q => u1 (by rw [k3]; exact q)))))
  · rw [k2] at c1
    obtain ⟨j, hj, rfl, hv, hc⟩ := vp_of k1 (by decide) c0 c1
    have hm : ∀ {A B : Prop}, B → (nI j < 0 → A) ∧ (¬ nI j < 0 → ((m_lamps M ≤ nI j → A) ∧ (¬ m_lamps M ≤ nI j → B))) := fun hB => rg (fun q => q.elim (fun q => absurd q c0) (fun q => absurd (by rw [k3] at q; exact q) c1)) (fun _ _ => hB)
    refine ya2 (bh (fun b1 => hm (ya2 (bh (fun _ => ⟨rfl, hu⟩) (fun k => absurd b1 k)))) (fun b1 => bh (fun b2 => ⟨hv, nm (hm (ya2 (bh (fun k => absurd k b1) (fun _ => bh (fun _ => ⟨hv, nm ⟨rfl, d, (h1.fr rfl rfl rfl rfl rfl rfl rfl rfl rfl rfl), (h2.fr rfl rfl rfl rfl rfl rfl), (h3.fr rfl (lampW _ _) rfl rfl rfl rfl rfl rfl), ?_, (h5.fr rfl (lampG _ _) rfl rfl rfl rfl rfl rfl rfl), (h6.fr rfl rfl rfl rfl rfl rfl), (h7.fr rfl rfl rfl rfl rfl rfl rfl rfl)⟩⟩) (fun k => absurd b2 k)))))⟩) (fun b2 => hm (ya2 (bh (fun k => absurd k b1) (fun _ => bh (fun k => absurd k b2) (fun _ => ⟨rfl, hu⟩)))))))
    rw [Int32.lt_iff_toInt_lt] at b1
    rw [Int32.le_iff_toInt_le] at b2
    have y1 : (-100000 : Int32).toInt = -100000 := by decide
    have y2 : (100000 : Int32).toInt = 100000 := by decide
    refine ⟨K, k1, k2, k3, fun l hl => ?_, fun l hl hl2 => ?_, k6⟩
    · obtain ⟨q1, q2, q3, q4, q5, q6, q7, q8⟩ := k4 l hl
      rw [hc]
      show x_Lamps_crossings X l = m_crossing M l ∧ x_Lamps_kinds X l = m_kind M l ∧ upd (x_Lamps_prices X) j a2 l = upd (m_price M) j a2 l ∧ (∃ c, c < 40 ∧ m_crossing M l = nI c) ∧ (∃ k, k ≤ 4 ∧ m_kind M l = nI k) ∧ (m_kind M l = 1 → x_Lamps_others X l = m_other M l ∧ ∃ o, o < K ∧ m_other M l = nI o ∧ o ≠ l) ∧ (-(100000 + 1000 * ((n + 1 : Nat) : Int)) ≤ (upd (m_price M) j a2 l).toInt ∧ (upd (m_price M) j a2 l).toInt ≤ 100000 + 1000 * ((n + 1 : Nat) : Int)) ∧ bz (m_isOut M l)
      by_cases e : l = j
      · subst e
        rw [pk_us, pk_us]
        exact ⟨q1, q2, rfl, q4, q5, q6, ⟨by omega, by omega⟩, q8⟩
      · rw [pk_un e, pk_un e]
        exact ⟨q1, q2, q3, q4, q5, q6, ⟨by omega, by omega⟩, q8⟩
    · rw [hc]
      show upd (x_Lamps_prices X) j a2 l = 0
      rw [pk_un (by omega)]
      exact k5 l hl hl2
theorem ls_about (n : Nat) (X M : ST) (a1 a2 : Int32) (_ : n < 512) (h : Inv n X M) : wp_LR_about X a1 a2 (fun r X1 => wp_m_about M a1 a2 (fun q M1 => r = q ∧ Inv (n + 1) X1 M1)) := by
  have hu := h.up
  obtain ⟨d, h1, h2, h3, h4, h5, h6, h7⟩ := h
  obtain ⟨L, l1, l2, l3, l4⟩ := id h1
  refine rg (fun hb => ?_) (fun c0 c1 => ?_)
  · rw [l2] at hb
    exact no1 (rg (fun _ => no1 ⟨rfl, hu⟩) (fun u0 u1 => absurd hb (fun q => q.elim u0 (fun q => u1 (by rw [l3]; exact q)))))
  · rw [l2] at c1
    obtain ⟨j, hj, rfl, hv, hc⟩ := vp_of l1 (by decide) c0 c1
    obtain ⟨⟨o1, o2, o3, o4⟩, -⟩ := l4 j hj
    have hm : ∀ {A B : Prop}, B → (nI j < 0 → A) ∧ (¬ nI j < 0 → ((m_lanes M ≤ nI j → A) ∧ (¬ m_lanes M ≤ nI j → B))) := fun hB => rg (fun q => q.elim (fun q => absurd q c0) (fun q => absurd (by rw [l3] at q; exact q) c1)) (fun _ _ => hB)
    rw [hc]
    dsimp only
    refine ya1 (bh (fun e0 => ⟨hv, hm (ya1 (bn (fun k => absurd e0 k) (fun _ => ⟨hv, by rw [hc]; exact o1, hu⟩)))⟩) (fun e0 => bh (fun e1 => ⟨hv, hm (ya1 (bn (fun _ => bn (fun k => absurd e1 k) (fun _ => ⟨hv, by rw [hc]; exact o2, hu⟩)) (fun k => absurd k e0)))⟩) (fun e1 => bh (fun e2 => ⟨hv, hm (ya1 (bn (fun _ => bn (fun _ => bn (fun k => absurd e2 k) (fun _ => ⟨hv, by rw [hc]; exact o3, hu⟩)) (fun k => absurd k e1)) (fun k => absurd k e0)))⟩) (fun e2 => bh (fun e3 => ⟨hv, ?_⟩) (fun e3 => hm (ya1 (bn (fun _ => bn (fun _ => bn (fun _ => bn (fun _ => ⟨rfl, hu⟩) (fun k => absurd k e3)) (fun k => absurd k e2)) (fun k => absurd k e1)) (fun k => absurd k e0))))))))
    rw [o4]
    refine bh (fun z => hm (ya1 (bn (fun _ => bn (fun _ => bn (fun _ => bn (fun k => absurd e3 k) (fun _ => ⟨hv, by rw [hc]; exact bh (fun _ => ⟨rfl, hu⟩) (fun k => absurd z k)⟩)) (fun k => absurd k e2)) (fun k => absurd k e1)) (fun k => absurd k e0)))) (fun z => hm (ya1 (bn (fun _ => bn (fun _ => bn (fun _ => bn (fun k => absurd e3 k) (fun _ => ⟨hv, by rw [hc]; exact bh (fun k => absurd k z) (fun _ => ⟨rfl, hu⟩)⟩)) (fun k => absurd k e2)) (fun k => absurd k e1)) (fun k => absurd k e0))))
