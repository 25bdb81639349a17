theorem cell2 (M : ST) (f g : Nat → Int64) : ms_cell (ms_cell M f) g = ms_cell M g := sB_sB _ _ _ _
theorem mrow_ok {M : ST} {r z : Nat} {K : ST → Prop} {post : Int32 → ST → Prop} (hr : r < 4) (hz : z ≤ 50) (h : ∀ f : Nat → Int64, (∀ i, i < z → f (50 * r + i) = 1) → (∀ q, (∀ i, i < z → q ≠ 50 * r + i) → f q = m_cell M q) → K (ms_cell M f)) : ∃ n, wp_m_row_50 K post n M (nI r) (nI z) 0 := by
  have go : ∀ (m i : Nat) (f : Nat → Int64), i + m = z → (∀ j, j < i → f (50 * r + j) = 1) → (∀ q, (∀ j, j < z → q ≠ 50 * r + j) → f q = m_cell M q) → wp_m_row_50 K post (m + 1) (ms_cell M f) (nI r) (nI z) (nI i) := by
    intro m
    induction m with
    | zero =>
      intro i f hi hf hg
      exact ⟨fun _ => h f (fun j hj => hf j (by omega)) hg, fun c => absurd (nI_le (by omega) (by omega)) c⟩
    | succ m ih =>
      intro i f hi hf hg
      obtain ⟨mv, mc9⟩ := mix (z := z) hr (show i < z by omega) hz
      refine ⟨fun c => absurd c (nI_ge (by omega) (by omega)), fun _ => ⟨mv, nm ?_⟩⟩
      rw [mc9, cell2, nI_1]
      refine ih (i + 1) _ (by omega) (fun j hj => ?_) (fun q hq => ?_)
      · show vp_updL (ks_up M.2.2.2 53 f 53) (50 * r + i) 1 (50 * r + j) = 1
        rw [ks_up_eq]
        by_cases e : j = i
        · subst e; exact pk_uLs
        · rw [pk_uLn (by omega)]; exact hf j (by omega)
      · show vp_updL (ks_up M.2.2.2 53 f 53) (50 * r + i) 1 q = _
        rw [ks_up_eq, pk_uLn (hq i (by omega))]
        exact hg q hq
  have := go z 0 (m_cell M) (by omega) (fun j hj => absurd hj (by omega)) (fun _ _ => rfl)
  have e : ms_cell M (m_cell M) = M := by
    show (M.1, M.2.1, M.2.2.1, ks_up M.2.2.2 53 (M.2.2.2 53)) = M
    rw [show ks_up M.2.2.2 53 (M.2.2.2 53) = M.2.2.2 from funext fun j => by by_cases e : j = 53 <;> simp [ks_up, e]]
  rw [e] at this
  exact ⟨_, this⟩
theorem rowW (X : ST) (f g : Nat → Int32) : x_ways (xs_Rows_sizes (xs_Rows_kinds X f) g) = x_ways X := (ways_sA (k := 14) (by decide) _ _).trans (ways_sA (k := 13) (by decide) _ _)
theorem rowG (X : ST) (f g : Nat → Int32) : x_gaps (xs_Rows_sizes (xs_Rows_kinds X f) g) = x_gaps X := (gaps_sA (k := 14) (by decide) _ _).trans (gaps_sA (k := 13) (by decide) _ _)
theorem ls_row (n : Nat) (X M : ST) (a1 a2 a3 : Int32) (_ : n < 512) (h : Inv n X M) : wp_LR_row X a1 a2 a3 (fun r X1 => wp_m_row M a1 a2 a3 (fun q M1 => r = q ∧ Inv (n + 1) X1 M1)) := by
  have hu := h.up
  obtain ⟨d, h1, h2, h3, h4, h5, h6, h7⟩ := h
  refine rg (fun hb => ?_) (fun c0 c1 => ?_)
  · exact no2 (rg (fun _ => no2 ⟨rfl, hu⟩) (fun u0 u1 => absurd hb (fun q => q.elim u0 u1)))
  · obtain ⟨r, hr, rfl, hv, hc⟩ := row_of c0 c1
    have hm : ∀ {A B : Prop}, B → (nI r < 0 → A) ∧ (¬ nI r < 0 → ((4 ≤ nI r → A) ∧ (¬ 4 ≤ nI r → B))) := fun hB => rg (fun q => absurd q (fun q => q.elim c0 c1)) (fun _ _ => hB)
    refine ya2 (bh (fun b1 => hm (ya2 (bh (fun _ => ⟨rfl, hu⟩) (fun k => absurd b1 k)))) (fun b1 => bh (fun b2 => bh (fun b3 => bh (fun b4 => ?_) (fun b4 => ?_)) (fun b3 => ?_)) (fun b2 => ?_)))
    · obtain ⟨z, hz9, rfl⟩ := nI_of (x := a3) (fun q => (le_nlt.mp b3) q)
      have hz : z ≤ 50 := by
        rcases Nat.lt_or_ge 50 z with q | q
        · exact absurd b4 (nI_ge q hz9)
        · exact q
      refine ⟨hv, nm ⟨hv, nm ⟨hv, fillJ_ok (by decide) (fun f hf => ?_)⟩⟩⟩
      have hw9 := rowW X (upd (x_Rows_kinds X) (nI r).toNatClampNeg a2) (upd (x_Rows_sizes X) (nI r).toNatClampNeg (nI z))
      have hg9 := rowG X (upd (x_Rows_kinds X) (nI r).toNatClampNeg a2) (upd (x_Rows_sizes X) (nI r).toNatClampNeg (nI z))
      refine hm (ya2 (bh (fun k => absurd k b1) (fun _ => bh (fun _ => bh (fun _ => bh (fun _ => ⟨hv, nm ⟨hv, nm (mrow_ok hr hz (fun f' g1 g2 => ⟨rfl, d, (h1.fr rfl rfl rfl rfl rfl rfl rfl rfl rfl rfl), ?_, (h3.fr rfl (hw9) rfl rfl rfl rfl rfl rfl), (h4.up.fr rfl rfl rfl rfl rfl rfl rfl rfl rfl rfl rfl rfl), (h5.fr rfl (hg9) rfl rfl rfl rfl rfl rfl rfl), (h6.fr rfl rfl rfl rfl rfl rfl), (h7.fr rfl rfl rfl rfl rfl rfl rfl rfl)⟩))⟩⟩) (fun k => absurd b4 k)) (fun k => absurd b3 k)) (fun k => absurd b2 k))))
      intro r' hr'
      rw [hc, cells_sBr]
      show upd (x_Rows_kinds X) r a2 r' = upd (m_rowKind M) r a2 r' ∧ upd (x_Rows_sizes X) r (nI z) r' = upd (m_rowSize M) r (nI z) r' ∧ (upd (m_rowSize M) r (nI z) r' = -1 ∨ ∃ z', z' ≤ 50 ∧ upd (m_rowSize M) r (nI z) r' = nI z' ∧ ∀ i, i < z' → (if r' = r then f else x_cells X r') i = f' (50 * r' + i))
      by_cases e : r' = r
      · subst e
        rw [pk_us, pk_us, pk_us, pk_us, if_pos rfl]
        exact ⟨rfl, rfl, Or.inr ⟨z, hz, rfl, fun i hi => by rw [hf i (by omega), g1 i hi]⟩⟩
      · rw [pk_un e, pk_un e, pk_un e, pk_un e, if_neg e]
        obtain ⟨q1, q2, q3⟩ := h2 r' hr'
        refine ⟨q1, q2, q3.imp id (fun ⟨z', w1, w2, w3⟩ => ⟨z', w1, w2, fun i hi => ?_⟩)⟩
        rw [g2 _ (fun j hj => by omega)]
        exact w3 i hi
    · exact hm (ya2 (bh (fun k => absurd k b1) (fun _ => bh (fun _ => bh (fun _ => bh (fun k => absurd k b4) (fun _ => ⟨rfl, hu⟩)) (fun k => absurd b3 k)) (fun k => absurd b2 k))))
    · exact hm (ya2 (bh (fun k => absurd k b1) (fun _ => bh (fun _ => bh (fun k => absurd k b3) (fun _ => ⟨rfl, hu⟩)) (fun k => absurd b2 k))))
    · exact hm (ya2 (bh (fun k => absurd k b1) (fun _ => bh (fun k => absurd k b2) (fun _ => ⟨rfl, hu⟩))))
theorem cellInv {n : Nat} {X M : ST} {d : Nat → Nat → Nat} (h : InvD n d X M) {r i z : Nat} {v : Int64} (hr : r < 4) (hi : i < z) (hz : z ≤ 50) (hs : m_rowSize M r = nI z) : Inv (n + 1) (xs_cells X r (vp_updL (x_cells X r) i v)) (ms_cell M (vp_updL (m_cell M) (50 * r + i) v)) := by
  obtain ⟨h1, h2, h3, h4, h5, h6, h7⟩ := h
  refine ⟨d, (h1.fr rfl rfl rfl rfl rfl rfl rfl rfl rfl rfl), ?_, (h3.fr rfl rfl rfl rfl rfl rfl rfl rfl), (h4.up.fr rfl rfl rfl rfl rfl rfl rfl rfl rfl rfl rfl rfl), (h5.fr rfl rfl rfl rfl rfl rfl rfl rfl rfl), (h6.fr rfl rfl rfl rfl rfl rfl), (h7.fr rfl rfl rfl rfl rfl rfl rfl rfl)⟩
  intro r' hr'
  obtain ⟨q1, q2, q3⟩ := h2 r' hr'
  rw [cells_sBr]
  refine ⟨q1, q2, q3.imp id (fun ⟨z', w1, w2, w3⟩ => ⟨z', w1, w2, fun j hj => ?_⟩)⟩
  show (if r' = r then vp_updL (x_cells X r) i v else x_cells X r') j = vp_updL (m_cell M) (50 * r + i) v (50 * r' + j)
  by_cases e : r' = r
  · subst e
    rw [if_pos rfl]
    by_cases e2 : j = i
    · subst e2; rw [pk_uLs, pk_uLs]
    · rw [pk_uLn e2, pk_uLn (by omega)]; exact w3 j hj
  · rw [if_neg e, pk_uLn (by omega)]; exact w3 j hj
theorem ls_cell (n : Nat) (X M : ST) (a1 a2 : Int32) (w3 : Int64) (_ : n < 512) (h : Inv n X M) : wp_LR_cell X a1 a2 w3 (fun r X1 => wp_m_cell M a1 a2 w3 (fun q M1 => r = q ∧ Inv (n + 1) X1 M1)) := by
  have hu := h.up
  obtain ⟨d, hd⟩ := h
  obtain ⟨h1, h2, h3, h4, h5, h6, h7⟩ := id hd
  refine rg (fun hb => ?_) (fun c0 c1 => ?_)
  · exact no1 (rg (fun _ => no1 ⟨rfl, hu⟩) (fun u0 u1 => absurd hb (fun q => q.elim u0 u1)))
  · obtain ⟨r, hr, rfl, hv, hc⟩ := row_of c0 c1
    have hm : ∀ {A B : Prop}, B → (nI r < 0 → A) ∧ (¬ nI r < 0 → ((4 ≤ nI r → A) ∧ (¬ 4 ≤ nI r → B))) := fun hB => rg (fun q => absurd q (fun q => q.elim c0 c1)) (fun _ _ => hB)
    obtain ⟨r1, r2, r3⟩ := h2 r hr
    refine ya1 ⟨hv, ?_⟩
    rw [hc, r2]
    refine bn (fun b => ?_) (fun b => ?_)
    · rcases r3 with r3 | ⟨z, hz, r3, r4⟩
      · exact absurd r3 b
      refine no2 (bh (fun b1 => ?_) (fun b1 => ⟨hv, ?_⟩))
      · refine no2 (hm (ya1 ⟨hv, ?_⟩)) |> fun q => ⟨q.2, q.1⟩
        rw [hc, r3]
        exact bh (fun _ => bh (fun _ => ⟨rfl, hu⟩) (fun k => absurd b1 k)) (fun k => absurd (nI_pos' (by omega)) k)
      · rw [hc, r2, r3]
        refine bh (fun b2 => ?_) (fun b2 => ?_)
        · refine no1 (hm (ya1 ⟨hv, ?_⟩))
          rw [hc, r3]
          exact bh (fun _ => bh (fun k => absurd k b1) (fun _ => ⟨hv, bh (fun k => absurd k (le_nlt.mp b2)) (fun _ => ⟨rfl, hu⟩)⟩)) (fun k => absurd (nI_pos' (by omega)) k)
        · obtain ⟨i, hi, rfl, hvi, hci⟩ := vp_of hz (by decide) b1 b2
          obtain ⟨mv, mc9⟩ := mix hr hi hz
          refine ya1 ⟨hv, ?_⟩
          have hmm : ∀ {A B C D : Prop}, D → ((0 : Int32) ≤ nI z → ((nI i < 0 → A) ∧ (¬ nI i < 0 → (vp_in (nI r) 4 ∧ ((nI i < nI z → D) ∧ (¬ nI i < nI z → B)))))) ∧ (¬ (0 : Int32) ≤ nI z → C) := fun hD => bh (fun _ => bh (fun k => absurd k b1) (fun _ => ⟨hv, bh (fun _ => hD) (fun k => absurd (lt_nle.mpr b2) k)⟩)) (fun k => absurd (nI_pos' (by omega)) k)
          rw [hc, r1, hci]
          refine bh (fun e0 => ⟨hv, hvi, nm (hm (ya1 ⟨hv, ?_⟩))⟩) (fun e0 => bh (fun e1 => ⟨hv, hvi, nm (hm (ya1 ⟨hv, ?_⟩))⟩) (fun e1 => ⟨hv, hvi, nm (hm (ya1 ⟨hv, ?_⟩))⟩))
          all_goals rw [hc, r3]; refine hmm ⟨hv, ?_⟩
          · exact bn (fun k => absurd e0 k) (fun _ => ⟨mv, nm ⟨rfl, by rw [mc9]; exact cellInv hd hr hi hz r3⟩⟩)
          · exact bn (fun _ => ⟨hv, bn (fun k => absurd e1 k) (fun _ => ⟨mv, nm ⟨rfl, by rw [mc9]; exact cellInv hd hr hi hz r3⟩⟩)⟩) (fun k => absurd k e0)
          · exact bn (fun _ => ⟨hv, bn (fun _ => ⟨mv, nm ⟨rfl, by rw [mc9]; exact cellInv hd hr hi hz r3⟩⟩) (fun k => absurd k e1)⟩) (fun k => absurd k e0)
    · refine ya2 (hm (ya1 ⟨hv, ?_⟩))
      rw [hc, b]
      exact bh (fun k => absurd k (by decide)) (fun _ => ⟨rfl, hu⟩)
