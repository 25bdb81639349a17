/-! PURE: ROWS -/
theorem cells_sBr {r r' : Nat} (X : ST) (f : Nat → Int64) : x_cells (ks_sB X (r + 300) f) r' = if r' = r then f else x_cells X r' := by
  show ks_up X.2.2.2 (r + 300) f (r' + 300) = _
  by_cases e : r' = r
  · subst e; rw [ks_up_eq, if_pos rfl]
  · rw [ks_up_ne _ _ (by omega), if_neg e]
theorem fillJ_ok {X : ST} {k n : Nat} {v : Int64} {post : ST → Prop} (hn : n < 2 ^ 31) (h : ∀ f : Nat → Int64, (∀ i, i < n → f i = v) → post (ks_sB X k f)) : wp_arr_fillJ X k n v post := by
  refine nm ?_
  have go : ∀ (m i : Nat) (f : Nat → Int64), i + m = n → (∀ j, j < i → f j = v) → wp_arr_fillJ_6 k n (fun X3 => post X3) post (m + 1) (ks_sB X k f) v (nI i) (Int32.ofNat n) := by
    intro m
    induction m with
    | zero =>
      intro i f hi hf
      exact ⟨fun _ => h f (fun j hj => hf j (by omega)), fun c => absurd (nI_le (by omega) (by omega)) c⟩
    | succ m ih =>
      intro i f hi hf
      refine ⟨fun c => absurd c (nI_ge (by omega) hn), fun _ => ⟨vp_in_nI (by omega) hn, nm ?_⟩⟩
      rw [nI_clamp (by omega), sB_sB, gB_sB, nI_1]
      refine ih (i + 1) _ (by omega) (fun j hj => ?_)
      by_cases e : j = i
      · subst e; exact pk_uLs
      · rw [pk_uLn e]; exact hf j (by omega)
  refine ⟨n + 1, ?_⟩
  have := go n 0 (X.2.2.2 k) (by omega) (fun j hj => absurd hj (by omega))
  have e : ks_sB X k (X.2.2.2 k) = X := by
    show (X.1, X.2.1, X.2.2.1, ks_up X.2.2.2 k (X.2.2.2 k)) = X
    rw [show ks_up X.2.2.2 k (X.2.2.2 k) = X.2.2.2 from funext fun j => by by_cases e : j = k <;> simp [ks_up, e]]
  rw [e] at this
  exact this
theorem row_of {p : Int32} (h0 : ¬ p < 0) (h1 : ¬ 4 ≤ p) : ∃ j, j < 4 ∧ p = nI j ∧ vp_in p 4 ∧ p.toNatClampNeg = j := vp_of (K := 4) (N := 4) (by decide) (by decide) h0 h1
theorem ls_lose (n : Nat) (X M : ST) (a1 : Int32) (_ : n < 512) (h : Inv n X M) : wp_LR_lose X a1 (fun r X1 => wp_m_lose M a1 (fun q M1 => r = q ∧ Inv (n + 1) X1 M1)) := by
  have hu := h.up
  obtain ⟨d, h1, h2, h3, h4, h5, h6, h7⟩ := h
  refine rg (fun hb => ?_) (fun c0 c1 => ?_)
  · exact no1 (rg (fun _ => no1 ⟨rfl, hu⟩) (fun u0 u1 => absurd hb (fun q => q.elim u0 u1)))
  · obtain ⟨r, hr, rfl, hv, hc⟩ := row_of c0 c1
    have hm : ∀ {A B : Prop}, B → (nI r < 0 → A) ∧ (¬ nI r < 0 → ((4 ≤ nI r → A) ∧ (¬ 4 ≤ nI r → B))) := fun hB => rg (fun q => absurd q (fun q => q.elim c0 c1)) (fun _ _ => hB)
    obtain ⟨r1, r2, r3⟩ := h2 r hr
    refine ya1 ⟨hv, ?_⟩
    rw [hc, r2]
    refine bn (fun b => ?_) (fun b => ?_)
    · rcases r3 with r3 | ⟨z, hz, r3, r4⟩
      · exact absurd r3 b
      refine no2 ⟨hv, nm (hm (ya1 ⟨hv, ?_⟩))⟩
      rw [hc, r3]
      refine bh (fun _ => ⟨hv, nm ⟨rfl, d, (h1.fr rfl rfl rfl rfl rfl rfl rfl rfl rfl rfl), ?_, (h3.fr rfl (ways_sA (by decide) _ _) rfl rfl rfl rfl rfl rfl), (h4.up.fr rfl rfl rfl rfl rfl rfl rfl rfl rfl rfl rfl rfl), (h5.fr rfl (gaps_sA (by decide) _ _) rfl rfl rfl rfl rfl rfl rfl), (h6.fr rfl rfl rfl rfl rfl rfl), (h7.fr rfl rfl rfl rfl rfl rfl rfl rfl)⟩⟩) (fun k => absurd (nI_pos' (by omega)) k)
      intro r' hr'
      show x_Rows_kinds X r' = m_rowKind M r' ∧ upd (x_Rows_sizes X) r (-1) r' = upd (m_rowSize M) r (-1) r' ∧ (upd (m_rowSize M) r (-1) r' = -1 ∨ ∃ z, z ≤ 50 ∧ upd (m_rowSize M) r (-1) r' = nI z ∧ ∀ i, i < z → x_cells X r' i = m_cell M (50 * r' + i))
      by_cases e : r' = r
      · subst e
        rw [pk_us, pk_us]
        exact ⟨r1, rfl, Or.inl rfl⟩
      · rw [pk_un e, pk_un e]
        exact h2 r' hr'
    · refine ya2 (hm (ya1 ⟨hv, ?_⟩))
      rw [hc, b]
      exact bh (fun k => absurd k (by decide)) (fun _ => ⟨rfl, hu⟩)
theorem mix {r i z : Nat} (hr : r < 4) (hi : i < z) (hz : z ≤ 50) : vp_in (50 * nI r + nI i) 200 ∧ (50 * nI r + nI i).toNatClampNeg = 50 * r + i := by
  have e : (50 : Int32) * nI r + nI i = nI (50 * r + i) := by
    rw [show (50 : Int32) = nI 50 from rfl, pk_mul, nI_add]
  rw [e]
  exact ⟨vp_in_nI (by omega) (by decide), nI_clamp (by omega)⟩
theorem ls_told (n : Nat) (X M : ST) (a1 a2 : Int32) (_ : n < 512) (h : Inv n X M) : wp_LR_told X a1 a2 (fun r X1 => wp_m_told M a1 a2 (fun q M1 => r = q ∧ Inv (n + 1) X1 M1)) := by
  have hu := h.up
  obtain ⟨d, h1, h2, h3, h4, h5, h6, h7⟩ := h
  refine rg (fun hb => ?_) (fun c0 c1 => ?_)
  · exact no2 (rg (fun _ => no2 ⟨rfl, hu⟩) (fun u0 u1 => absurd hb (fun q => q.elim u0 u1)))
  · obtain ⟨r, hr, rfl, hv, hc⟩ := row_of c0 c1
    have hm : ∀ {A B : Prop}, B → (nI r < 0 → A) ∧ (¬ nI r < 0 → ((4 ≤ nI r → A) ∧ (¬ 4 ≤ nI r → B))) := fun hB => rg (fun q => absurd q (fun q => q.elim c0 c1)) (fun _ _ => hB)
    obtain ⟨r1, r2, r3⟩ := h2 r hr
    refine ya2 (bh (fun b => ?_) (fun b => ⟨hv, ?_⟩))
    · exact no1 (hm (ya2 (bh (fun _ => ⟨rfl, hu⟩) (fun k => absurd b k))))
    · rw [hc, r2]
      refine bh (fun b2 => ?_) (fun b2 => ?_)
      · refine no1 (hm (ya2 (bh (fun k => absurd k b) (fun _ => ⟨hv, ?_⟩))))
        rw [hc]
        exact bh (fun k => absurd k (le_nlt.mp b2)) (fun _ => ⟨rfl, hu⟩)
      · rcases r3 with r3 | ⟨z, hz, r3, r4⟩
        · exfalso
          rw [r3, Int32.le_iff_toInt_le] at b2
          rw [Int32.lt_iff_toInt_lt] at b
          have y0 : (0 : Int32).toInt = 0 := rfl
          have y1 : (-1 : Int32).toInt = -1 := by decide
          omega
        · rw [r3] at b2
          obtain ⟨i, hi, rfl, hvi, hci⟩ := vp_of hz (by decide) b b2
          obtain ⟨mv, mc9⟩ := mix hr hi hz
          refine ya1 ⟨hv, hvi, hm (ya2 (bh (fun k => absurd k b) (fun _ => ⟨hv, ?_⟩)))⟩
          rw [hc, r3]
          refine bh (fun _ => ⟨mv, ?_, hu⟩) (fun k => absurd (lt_nle.mpr b2) k)
          rw [hci, mc9]
          exact r4 i hi
