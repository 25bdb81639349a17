/-! PURE: pairs are ranked -/
abbrev FR : ST → ST → Prop := Fe [10] [] [] [38]
theorem FR.fx {X X' : ST} (s : FR X X') : FX X X' := s.up (fun k hk => by simp only [List.mem_cons, List.not_mem_nil, or_false] at hk ⊢; omega) (fun k hk => absurd hk List.not_mem_nil) (fun k hk => absurd hk List.not_mem_nil) (fun k hk => hk)
theorem rk2 (X : ST) (f g : Nat → Int64) : xs_Tree_ranked (xs_Tree_ranked X f) g = xs_Tree_ranked X g := sB_sB _ _ _ _
theorem rkg (X : ST) (f : Nat → Int64) : x_Tree_ranked (xs_Tree_ranked X f) = f := gB_sB _ _ _
theorem rks (X : ST) : xs_Tree_ranked X (x_Tree_ranked X) = X := by
  show (X.1, X.2.1, X.2.2.1, ks_up X.2.2.2 38 (X.2.2.2 38)) = X
  rw [show ks_up X.2.2.2 38 (X.2.2.2 38) = X.2.2.2 from funext fun j => by by_cases e : j = 38 <;> simp [ks_up, e]]
def Rea (ky : Nat → Int) (m : Nat) (p q : Nat → Nat) : Prop := (∀ i, i < m → ∃ j, j < m ∧ q i = p j) ∧ (∀ j, j < m → ∃ i, i < m ∧ q i = p j) ∧ ∀ i j, i < m → j < m → ky (q i) = ky (q j) → i = j
theorem Rea.sw {ky : Nat → Int} {m a b : Nat} {p q : Nat → Nat} (h : Rea ky m p q) (ha : a < m) (hb : b < m) (hab : a ≠ b) : Rea ky m p (swp q a b) := by
  have s : ∀ k, k < m → ∃ k', k' < m ∧ swp q a b k = q k' ∧ k' = (if k = a then b else if k = b then a else k) := by
    intro k hk
    by_cases e : k = a
    · subst e; exact ⟨b, hb, swp_i, (if_pos rfl).symm⟩
    · by_cases e2 : k = b
      · subst e2; exact ⟨a, ha, swp_j e, by rw [if_neg e, if_pos rfl]⟩
      · exact ⟨k, hk, swp_o e e2, by rw [if_neg e, if_neg e2]⟩
  refine ⟨fun i hi => ?_, fun j hj => ?_, fun i j hi hj e => ?_⟩
  · obtain ⟨k', h1, h2, _⟩ := s i hi
    rw [h2]
    exact h.1 k' h1
  · obtain ⟨i, hi, e⟩ := h.2.1 j hj
    by_cases y : i = a
    · subst y
      exact ⟨b, hb, by rw [swp_j (fun z => hab z.symm)]; exact e⟩
    · by_cases y2 : i = b
      · subst y2
        exact ⟨a, ha, by rw [swp_i]; exact e⟩
      · exact ⟨i, hi, by rw [swp_o y y2]; exact e⟩
  · obtain ⟨i', h1, h2, h3⟩ := s i hi
    obtain ⟨j', g1, g2, g3⟩ := s j hj
    rw [h2, g2] at e
    have := h.2.2 i' j' h1 g1 e
    subst this
    rw [h3] at g3
    repeat' (split at g3)
    all_goals omega
theorem sort_ok {X : ST} {m : Nat} {p : Nat → Nat} {ky : Nat → Int} {post : ST → Prop} (hb : ∀ i, i < m → -1000000000 ≤ ky (p i) ∧ ky (p i) ≤ 281474976711000) (hm : x_Tree_pairs X = nI m) (m66 : m ≤ 66) (hr : ∀ i, i < m → x_Tree_ranked X i = oL (ky (p i))) (hinj : ∀ i j, i < m → j < m → ky (p i) = ky (p j) → i = j) (hp : ∀ f q, (∀ i, i < m → f i = oL (ky (q i))) → (∀ i j, i < j → j < m → ky (q i) < ky (q j)) → Rea ky m p q → post (xs_Tree_ranked X f)) : wp_Tree_sort X post := by
  have pn : ∀ f, x_Tree_pairs (xs_Tree_ranked X f) = nI m := fun f => hm
  have kb : ∀ q, Rea ky m p q → ∀ i, i < m → -1000000000 ≤ ky (q i) ∧ ky (q i) ≤ 281474976711000 := by
    intro q h i hi
    obtain ⟨j, hj, e⟩ := h.1 i hi
    rw [e]; exact hb j hj
  have go : ∀ (r k : Nat) (f : Nat → Int64) (q : Nat → Nat), m ≤ k + r → 1 ≤ k → k ≤ 67 → (∀ i, i < m → f i = oL (ky (q i))) → Rea ky m p q → (∀ i j, i < j → j < k → j < m → ky (q i) < ky (q j)) → wp_Tree_sort_2 (fun X8 => post X8) post (r + 1) (xs_Tree_ranked X f) (nI k) := by
    intro r
    induction r with
    | zero =>
      intro k f q hk k1 k67 hf hq hs
      exact yes (by rw [pn]; exact nI_le (by omega) (by omega)) (hp f q hf (fun i j a b => hs i j a (by omega) b) hq)
    | succ r ih =>
      intro k f q hk k1 k67 hf hq hs
      refine bh (fun c => ?_) (fun c => ?_)
      · rw [pn] at c
        have c := (nI_leI (by omega) (by omega)).mp c
        exact hp f q hf (fun i j a b => hs i j a (by omega) b) hq
      · rw [pn] at c
        have c : k < m := by
          rcases Nat.lt_or_ge k m with y | y
          · exact y
          · exact absurd (nI_le y (by omega)) c
        refine ⟨vp_in_nI (by omega) (by decide), ?_⟩
        rw [rkg, nI_clamp (show k < 2 ^ 31 by omega), hf k c]
        refine nm ?_
        have inn : ∀ (pl : Nat) (g : Nat → Int64) (u : Nat → Nat), pl ≤ k → (∀ i, i < m → i ≠ pl → g i = oL (ky (u i))) → u pl = q k → Rea ky m p u → (∀ i j, i < j → j ≤ k → i ≠ pl → j ≠ pl → ky (u i) < ky (u j)) → (∀ j, pl < j → j ≤ k → ky (q k) < ky (u j)) → wp_Tree_sort_20 (fun X3 v4 v5 v6 => vp_in v6 66 ∧ (∀ X7 : ST, X7 = xs_Tree_ranked X3 (vp_updL (x_Tree_ranked X3) v6.toNatClampNeg v5) → wp_Tree_sort_2 (fun X8 => post X8) post (r + 1) X7 (v4 + 1))) post (pl + 1) (xs_Tree_ranked X g) (nI k) (oL (ky (q k))) (nI pl) := by
          have qk := kb q hq k c
          have put : ∀ (pl : Nat) (g : Nat → Int64) (u : Nat → Nat), pl ≤ k → (∀ i, i < m → i ≠ pl → g i = oL (ky (u i))) → u pl = q k → Rea ky m p u → (∀ i j, i < j → j ≤ k → i ≠ pl → j ≠ pl → ky (u i) < ky (u j)) → (∀ j, pl < j → j ≤ k → ky (q k) < ky (u j)) → (∀ i, i < pl → ky (u i) < ky (q k)) → vp_in (nI pl) 66 ∧ (∀ X7 : ST, X7 = xs_Tree_ranked (xs_Tree_ranked X g) (vp_updL (x_Tree_ranked (xs_Tree_ranked X g)) (nI pl).toNatClampNeg (oL (ky (q k)))) → wp_Tree_sort_2 (fun X8 => post X8) post (r + 1) X7 (nI k + 1)) := by
            intro pl g u hpl hg hu hR hs1 hs2 hs3
            refine ⟨vp_in_nI (by omega) (by decide), nm ?_⟩
            rw [rk2, rkg, nI_clamp (show pl < 2 ^ 31 by omega), nI_1]
            refine ih (k + 1) _ u (by omega) (by omega) (by omega) (fun i hi => ?_) hR (fun i j a b e => ?_)
            · by_cases y : i = pl
              · subst y; rw [pk_uLs, hu]
              · rw [pk_uLn y]; exact hg i hi y
            · by_cases y : i = pl
              · subst y
                rw [hu]; exact hs2 j a (by omega)
              · by_cases z : j = pl
                · subst z
                  rw [hu]; exact hs3 i a
                · exact hs1 i j a (by omega) y z
          intro pl
          induction pl with
          | zero =>
            intro g u hpl hg hu hR hs1 hs2
            exact yes (by decide) (put 0 g u hpl hg hu hR hs1 hs2 (fun i hi => absurd hi (by omega)))
          | succ pl ihp =>
            intro g u hpl hg hu hR hs1 hs2
            refine nay (nI_nle (by omega) (by omega)) ?_
            rw [nI_pred, nI_clamp (show pl < 2 ^ 31 by omega), rkg, hg pl (by omega) (by omega)]
            have ub := kb u hR pl (by omega)
            refine ⟨vp_in_nI (by omega) (by decide), bh (fun c2 => ?_) (fun c2 => ⟨vp_in_nI (by omega) (by decide), vp_in_nI (by omega) (by decide), nm ?_⟩)⟩
            · have c2 := (oL_le (by omega) (by omega) (by omega) (by omega)).mp c2
              refine put (pl + 1) g u hpl hg hu hR hs1 hs2 (fun i hi => ?_)
              have ne : ky (u pl) ≠ ky (q k) := fun z => by
                have := hR.2.2 pl (pl + 1) (by omega) (by omega) (by rw [hu]; exact z)
                omega
              by_cases y : i = pl
              · subst y; omega
              · have := hs1 i pl (by omega) (by omega) (by omega) (by omega)
                omega
            · have c2 : ¬ ky (u pl) ≤ ky (q k) := fun z => c2 ((oL_le (by omega) (by omega) (by omega) (by omega)).mpr z)
              rw [rk2, nI_clamp (show pl + 1 < 2 ^ 31 by omega), nI_dec]
              refine ihp _ (swp u pl (pl + 1)) (by omega) (fun i hi hne => ?_) ?_ (hR.sw (by omega) (by omega) (by omega)) (fun i j a b hi hj => ?_) (fun j a b => ?_)
              · by_cases y : i = pl + 1
                · subst y; rw [pk_uLs, swp_j (by omega)]
                · rw [pk_uLn y, swp_o hne y]; exact hg i hi y
              · rw [swp_i]; exact hu
              · by_cases y : i = pl + 1
                · subst y
                  rw [swp_j (by omega), swp_o (by omega) (by omega)]
                  exact hs1 pl j (by omega) b (by omega) (by omega)
                · by_cases z : j = pl + 1
                  · subst z
                    rw [swp_j (by omega), swp_o hi y]
                    exact hs1 i pl (by omega) (by omega) y (by omega)
                  · rw [swp_o hi y, swp_o hj z]
                    exact hs1 i j a b y z
              · by_cases z : j = pl + 1
                · subst z
                  rw [swp_j (by omega)]; omega
                · rw [swp_o (by omega) z]
                  exact hs2 j (by omega) b
        exact ⟨_, inn k f q (Nat.le_refl _) (fun i hi _ => hf i hi) rfl hq (fun i j a b y z => hs i j a (by omega) (by omega)) (fun j a b => absurd a (by omega))⟩
  have st := go m 1 (x_Tree_ranked X) p (by omega) (by omega) (by omega) hr ⟨fun i hi => ⟨i, hi, rfl⟩, fun j hj => ⟨j, hj, rfl⟩, hinj⟩ (fun i j a b => absurd b (by omega))
  rw [rks] at st
  exact ⟨_, st⟩
/-- the ranked pairs -/
def RK (M : ST) (d : Nat → Nat → Nat) (K : Nat) (X : ST) (m : Nat) (p : Nat → Nat) : Prop := x_Tree_pairs X = nI m ∧ m ≤ 66 ∧ (∀ i, i < m → x_Tree_ranked X i = oL (key M d (p i)) ∧ p i < 144 ∧ lpM M K (p i)) ∧ (∀ i j, i < j → j < m → key M d (p i) < key M d (p j)) ∧ ∀ k, k < 144 → lpM M K k → ∃ i, i < m ∧ p i = k
theorem cn66 : cn (fun k => decide (k / 12 < k % 12)) 144 = 66 := by decide +kernel
theorem sorted_ok {n K m : Nat} {d : Nat → Nat → Nat} {X M : ST} {p : Nat → Nat} {post : ST → Prop} (hm : ML d K M) (hb : PB M K) (hx : x_Tree_pairs X = nI m) (hr : ∀ i, i < m → x_Tree_ranked X i = oL (key M d (p i)) ∧ p i < 144 ∧ lpM M K (p i)) (hinj : ∀ i j, i < m → j < m → p i = p j → i = j) (hs : ∀ k, k < 144 → lpM M K k → ∃ i, i < m ∧ p i = k) (hp : ∀ X' q, FR X X' → RK M d K X' m q → post X') : wp_Tree_sort X post := by
  have m66 : m ≤ 66 := by
    rw [← cn66]
    exact inj_cn _ 144 m p (fun i hi => ⟨(hr i hi).2.1, decide_eq_true (hr i hi).2.2.1⟩) hinj
  refine sort_ok (ky := key M d) (fun i hi => key_b hm hb (hr i hi).2.2 (hr i hi).2.1) hx m66 (fun i hi => (hr i hi).1) (fun i j hi hj e => hinj i j hi hj (key_u (hr i hi).2.1 (hr j hj).2.1 e)) (fun f q hf hso hR => hp _ q ((Fe.rf X).sB (by decide) _) ⟨hx, m66, fun i hi => ⟨?_, ?_⟩, hso, fun k hk lp => ?_⟩)
  · rw [rkg]; exact hf i hi
  · obtain ⟨j, hj, e⟩ := hR.1 i hi
    rw [e]; exact (hr j hj).2
  · obtain ⟨j, hj, e⟩ := hs k hk lp
    obtain ⟨i, hi, e2⟩ := hR.2.1 j hj
    exact ⟨i, hi, e2.trans e⟩
theorem rank_ok {n K : Nat} {d : Nat → Nat → Nat} {X M : ST} {post : ST → Prop} (hk : LampK n K X M) (hn : n ≤ 600) (hm : ML d K M) (hg : XG d K X M) (hp : ∀ X' m q, FR X X' → RK M d K X' m q → post X') : wp_Tree_rank X post := by
  have hK := hm.1
  have hb := hk.pb hn
  -- so many are written, all ahead of (a, b)
  let St : ST → Nat → Nat → Nat → (Nat → Nat) → Prop := fun Y a b m p => FR X Y ∧ x_Tree_pairs Y = nI m ∧ (∀ i, i < m → x_Tree_ranked Y i = oL (key M d (p i)) ∧ p i < 144 ∧ lpM M K (p i) ∧ (p i / 12 < a ∨ (p i / 12 = a ∧ p i % 12 < b))) ∧ (∀ i j, i < m → j < m → p i = p j → i = j) ∧ ∀ k, k < 144 → lpM M K k → (k / 12 < a ∨ (k / 12 = a ∧ k % 12 < b)) → ∃ i, i < m ∧ p i = k
  have weak : ∀ {Y a b m p a' b'}, St Y a b m p → (∀ k, k < 144 → lpM M K k → ((k / 12 < a ∨ (k / 12 = a ∧ k % 12 < b)) ↔ (k / 12 < a' ∨ (k / 12 = a' ∧ k % 12 < b')))) → St Y a' b' m p := by
    intro Y a b m p a' b' h e
    obtain ⟨h1, h2, h3, h4, h5⟩ := h
    refine ⟨h1, h2, fun i hi => ?_, h4, fun k hk lp q => h5 k hk lp ((e k hk lp).mpr q)⟩
    obtain ⟨g1, g2, g3, g4⟩ := h3 i hi
    exact ⟨g1, g2, g3, (e _ g2 g3).mp g4⟩
  have inn : ∀ {K86 : ST → Int32 → Prop} (a : Nat), a < K → (∀ Y m p, St Y a K m p → K86 Y (nI a)) → ∀ (r b : Nat) (Y : ST) (m : Nat) (p : Nat → Nat), b + r = K → a < b → St Y a b m p → wp_Tree_rank_22 K86 post (r + 1) Y (nI a) (nI b) := by
    intro K86 a ha hK86 r
    induction r with
    | zero =>
      intro b Y m p hr hab hS
      have : b = K := by omega
      subst this
      have ec : x_Lamps_count Y = nI b := (hS.1.1 2 (by decide)).trans hk.2.1
      exact yes (by rw [ec]; exact nI_le (Nat.le_refl _) (by omega)) (hK86 Y m p hS)
    | succ r ih =>
      intro b Y m p hr hab hS
      have hkY : LampK n K Y M := FX.lamp hS.1.fx hk
      have hgY : XG d K Y M := fun x y hx hy => by rw [FX.gaps hS.1.fx]; exact hg x y hx hy
      have skip : (¬ m_isOut M a = 0 ∨ ¬ m_isOut M b = 0) → wp_Tree_rank_22 K86 post (r + 1) Y (nI a) (nI b + 1) := by
        intro q
        rw [nI_1]
        refine ih (b + 1) Y m p (by omega) (by omega) (weak hS (fun k hk lp => ?_))
        constructor
        · omega
        · rintro (z | ⟨z1, z2⟩)
          · exact Or.inl z
          · by_cases y : k % 12 = b
            · rcases q with q | q
              · exact absurd (z1 ▸ lp.2.2.1) q
              · exact absurd (y ▸ lp.2.2.2) q
            · exact Or.inr ⟨z1, by omega⟩
      refine nay (by rw [hkY.2.1]; exact nI_ge (by omega) (by omega)) (isLive_ok hkY (fun q => absurd q (fun q => q.elim (nI_pos (by omega)) (nI_ge ha (by omega)))) (fun l hl e ol => ya2 (isLive_ok hkY (fun q => absurd q (fun q => q.elim (nI_pos (by omega)) (nI_ge (by omega) (by omega)))) (fun l' hl' e' ol' => ya2 ?_) (fun l' hl' e' ol' => no2 (skip (Or.inr ?_))))) (fun l hl e ol => no2 (skip (Or.inl ?_))))
      · have e : a = l := (nI_eq (by omega) (by omega)).mp e
        have e' : b = l' := (nI_eq (by omega) (by omega)).mp e'
        subst e; subst e'
        obtain ⟨h1, h2, h3, h4, h5⟩ := id hS
        have ka : (12 * a + b) / 12 = a := by omega
        have kb : (12 * a + b) % 12 = b := by omega
        have lp : lpM M K (12 * a + b) := by
          unfold lpM
          rw [ka, kb]
          exact ⟨hab, hl', ol, ol'⟩
        have fresh : ∀ i, i < m → p i ≠ 12 * a + b := fun i hi z => by
          have := (h3 i hi).2.2.2
          rw [z, ka, kb] at this
          omega
        have m66 : m + 1 ≤ 66 := by
          rw [← cn66]
          refine inj_cn _ 144 (m + 1) (upn p m (12 * a + b)) (fun i hi => ?_) (fun i j hi hj z => ?_)
          · by_cases y : i = m
            · subst y; rw [upn_s]; exact ⟨by omega, decide_eq_true lp.1⟩
            · rw [upn_n y]; exact ⟨(h3 i (by omega)).2.1, decide_eq_true (h3 i (by omega)).2.2.1.1⟩
          · by_cases y : i = m
            · by_cases y2 : j = m
              · omega
              · subst y; rw [upn_s, upn_n y2] at z; exact absurd z.symm (fresh j (by omega))
            · by_cases y2 : j = m
              · subst y2; rw [upn_s, upn_n y] at z; exact absurd z (fresh i (by omega))
              · rw [upn_n y, upn_n y2] at z; exact h4 i j (by omega) (by omega) z
        have ko := keyOf_ok (k := 12 * a + b) (X := Y) (post := fun r8 X7 => vp_in (x_Tree_pairs Y) 66 ∧ (∀ X9 : ST, X9 = xs_Tree_ranked X7 (vp_updL (x_Tree_ranked X7) (x_Tree_pairs Y).toNatClampNeg r8) → ∀ X10 : ST, X10 = xs_Tree_pairs X9 ((x_Tree_pairs X9) + 1) → wp_Tree_rank_22 K86 post (r + 1) X10 (nI a) (nI b + 1))) hkY hm hgY (by rw [ka]; exact ha) (by rw [kb]; omega) ?_
        · rw [ka, kb] at ko
          exact ko
        · rw [h2]
          refine ⟨vp_in_nI (by omega) (by decide), nm (nm ?_)⟩
          rw [nI_clamp (show m < 2 ^ 31 by omega), show x_Tree_pairs (xs_Tree_ranked Y (vp_updL (x_Tree_ranked Y) m (oL (key M d (12 * a + b))))) = nI m from h2, nI_1, nI_1]
          refine ih (b + 1) _ (m + 1) (upn p m (12 * a + b)) (by omega) (by omega) ⟨(h1.sB (by decide) _).sI (by decide) _, rfl, fun i hi => ?_, fun i j hi hj z => ?_, fun k hk lpk q => ?_⟩
          · show vp_updL (x_Tree_ranked Y) m (oL (key M d (12 * a + b))) i = _ ∧ _
            by_cases y : i = m
            · subst y
              rw [pk_uLs, upn_s, ka, kb]
              exact ⟨rfl, by omega, lp, Or.inr ⟨rfl, by omega⟩⟩
            · rw [pk_uLn y, upn_n y]
              obtain ⟨g1, g2, g3, g4⟩ := h3 i (by omega)
              exact ⟨g1, g2, g3, by omega⟩
          · by_cases y : i = m
            · by_cases y2 : j = m
              · omega
              · subst y; rw [upn_s, upn_n y2] at z; exact absurd z.symm (fresh j (by omega))
            · by_cases y2 : j = m
              · subst y2; rw [upn_s, upn_n y] at z; exact absurd z (fresh i (by omega))
              · rw [upn_n y, upn_n y2] at z; exact h4 i j (by omega) (by omega) z
          · by_cases y : k = 12 * a + b
            · exact ⟨m, by omega, by rw [upn_s]; exact y.symm⟩
            · obtain ⟨i, hi, e⟩ := h5 k hk lpk (by omega)
              exact ⟨i, by omega, by rw [upn_n (by omega)]; exact e⟩
      · have e' : b = l' := (nI_eq (by omega) (by omega)).mp e'
        subst e'; exact ol'
      · have e : a = l := (nI_eq (by omega) (by omega)).mp e
        subst e; exact ol
  have out : ∀ (r a : Nat) (Y : ST) (m : Nat) (p : Nat → Nat), a + r = K → St Y a (a + 1) m p → wp_Tree_rank_7 (fun X13 => wp_Tree_sort X13 (fun X14 => post X14)) post (r + 1) Y (nI a) := by
    intro r
    induction r with
    | zero =>
      intro a Y m p hr hS
      have : a = K := by omega
      subst this
      have ec : x_Lamps_count Y = nI a := (hS.1.1 2 (by decide)).trans hk.2.1
      obtain ⟨h1, h2, h3, h4, h5⟩ := hS
      exact yes (by rw [ec]; exact nI_le (Nat.le_refl _) (by omega)) (sorted_ok (n := n) hm hb h2 (fun i hi => ⟨(h3 i hi).1, (h3 i hi).2.1, (h3 i hi).2.2.1⟩) h4 (fun k hk lp => h5 k hk lp (Or.inl (by have := lp.1; have := lp.2.1; omega))) (fun X' q fr rk => hp X' m q (h1.tr fr) rk))
    | succ r ih =>
      intro a Y m p hr hS
      have ec : x_Lamps_count Y = nI K := (hS.1.1 2 (by decide)).trans hk.2.1
      refine nay (by rw [ec]; exact nI_ge (by omega) (by omega)) (nm ?_)
      rw [nI_1]
      refine ⟨_, inn a (by omega) (fun Y' m' p' hS' => ?_) (K - (a + 1)) (a + 1) Y m p (by omega) (by omega) hS⟩
      show wp_Tree_rank_7 _ post (r + 1) Y' (nI a + 1)
      rw [nI_1]
      refine ih (a + 1) Y' m' p' (by omega) (weak hS' (fun k hk lp => ?_))
      have := lp.1
      have := lp.2.1
      constructor
      · omega
      · omega
  refine nm ⟨_, out K 0 (xs_Tree_pairs X 0) 0 (fun _ => 0) (by omega) ⟨(Fe.rf X).sI (by decide) _, rfl, fun i hi => absurd hi (by omega), fun i j hi => absurd hi (by omega), fun k hk lp q => ?_⟩⟩
  have := lp.1
  omega
theorem rankAnew_ok {n K m : Nat} {d : Nat → Nat → Nat} {X M M' : ST} {p : Nat → Nat} {post : ST → Prop} (hk : LampK n K X M') (hn : n ≤ 600) (hm : ML d K M') (hg : XG d K X M') (lpe : ∀ k, lpM M K k ↔ lpM M' K k) (rk : RK M d K X m p) (hp : ∀ X' q, FR X X' → RK M' d K X' m q → post X') : wp_Tree_rankAnew X post := by
  obtain ⟨r1, r2, r3, r4, r5⟩ := rk
  have hb := hk.pb hn
  have inj : ∀ i j, i < m → j < m → p i = p j → i = j := fun i j hi hj e => by
    rcases Nat.lt_trichotomy i j with y | y | y
    · have := r4 i j y hj; rw [e] at this; omega
    · exact y
    · have := r4 j i y hi; rw [e] at this; omega
  have pn : ∀ f, x_Tree_pairs (xs_Tree_ranked X f) = nI m := fun f => r1
  have go : ∀ (r i : Nat) (f : Nat → Int64), i + r = m → (∀ j, j < i → f j = oL (key M' d (p j))) → (∀ j, i ≤ j → j < m → f j = oL (key M d (p j))) → wp_Tree_rankAnew_2 (fun X12 => wp_Tree_sort X12 (fun X13 => post X13)) post (r + 1) (xs_Tree_ranked X f) (nI i) := by
    intro r
    induction r with
    | zero =>
      intro i f hi h1 h2
      refine yes (by rw [pn]; exact nI_le (by omega) (by omega)) (sorted_ok (n := n) (p := p) hm hb (pn f) (fun j hj => ⟨?_, (r3 j hj).2.1, (lpe _).mp (r3 j hj).2.2⟩) inj (fun k hk lp => r5 k hk ((lpe k).mpr lp)) (fun X' q fr rk => hp X' q (((Fe.rf X).sB (by decide) _).tr fr) rk))
      rw [rkg]; exact h1 j (by omega)
    | succ r ih =>
      intro i f hi h1 h2
      obtain ⟨g1, g2, g3⟩ := r3 i (by omega)
      have e : x_Tree_ranked (xs_Tree_ranked X f) i = oL (key M d (p i)) := by rw [rkg]; exact h2 i (Nat.le_refl _) (by omega)
      have lp := (lpe _).mp g3
      have l1 := lp.1
      have l2 := lp.2.1
      refine nay (by rw [pn]; exact nI_ge (by omega) (by omega)) (pairAt_ok (by omega) g2 e (lesser_ok g2 (pairAt_ok (by omega) g2 e (greater_ok g2 (keyOf_ok (X := xs_Tree_ranked X f) hk hm hg (by omega) l2 ⟨vp_in_nI (by omega) (by decide), nm ?_⟩)))))
      rw [rk2, rkg, nI_clamp (show i < 2 ^ 31 by omega), nI_1]
      refine ih (i + 1) _ (by omega) (fun j hj => ?_) (fun j a b => ?_)
      · by_cases y : j = i
        · subst y; rw [pk_uLs]
        · rw [pk_uLn y]; exact h1 j (by omega)
      · rw [pk_uLn (by omega)]; exact h2 j (by omega) b
  have st := go m 0 (x_Tree_ranked X) (by omega) (fun j hj => absurd hj (by omega)) (fun j _ hj => (r3 j hj).1)
  rw [rks] at st
  exact ⟨_, st⟩
