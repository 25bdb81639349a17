/-! PURE: turning stretches about -/
def rvF (r : Nat → Nat) (a b : Nat) : Nat → Nat := fun k => if a ≤ k ∧ k ≤ b then r (a + b - k) else r k
theorem rvF_in {r : Nat → Nat} {a b k : Nat} (h : a ≤ k ∧ k ≤ b) : rvF r a b k = r (a + b - k) := if_pos h
theorem rvF_out {r : Nat → Nat} {a b k : Nat} (h : ¬ (a ≤ k ∧ k ≤ b)) : rvF r a b k = r k := if_neg h
theorem reverse_ok {X : ST} {T a b : Nat} {r : Nat → Nat} {post : ST → Prop} (hf : ∀ i, i < T → x_Told_order X i = nI (r i)) (hT : T ≤ 12) (ha : 1 ≤ a) (hab : a ≤ b) (hb : b < T) (h : ∀ f, (∀ i, i < T → f i = nI (rvF r a b i)) → post (xs_Told_order X f)) : wp_Told_reverse X (nI a) (nI b) post := by
  have two : ∀ f g, xs_Told_order (xs_Told_order X f) g = xs_Told_order X g := fun f g => sA_sA _ _ _ _
  have get : ∀ f, x_Told_order (xs_Told_order X f) = f := fun f => gA_sA _ _ _
  have go : ∀ (m p q : Nat) (f : Nat → Int32), q ≤ p + m → p ≤ q + 1 → p + q = a + b → a ≤ p → q ≤ b → (∀ i, i < T → f i = nI (if (a ≤ i ∧ i < p) ∨ (q < i ∧ i ≤ b) then r (a + b - i) else r i)) → wp_Told_reverse_5 (fun X4 => post X4) post (m + 1) (xs_Told_order X f) (nI p) (nI q) := by
    intro m
    induction m with
    | zero =>
      intro p q f hm hpq hs hp hq hff
      refine yes (nI_le (by omega) (by omega)) (h f (fun i hi => ?_))
      rw [hff i hi]
      unfold rvF
      by_cases e : a ≤ i ∧ i ≤ b
      · rw [if_pos e]
        by_cases e2 : (a ≤ i ∧ i < p) ∨ (q < i ∧ i ≤ b)
        · rw [if_pos e2]
        · rw [if_neg e2, show a + b - i = i by omega]
      · rw [if_neg e, if_neg (by omega)]
    | succ m ih =>
      intro p q f hm hpq hs hp hq hff
      refine bh (fun c => ?_) (fun c => ?_)
      · have c := (nI_leI (by omega) (by omega)).mp c
        refine h f (fun i hi => ?_)
        rw [hff i hi]
        unfold rvF
        by_cases e : a ≤ i ∧ i ≤ b
        · rw [if_pos e]
          by_cases e2 : (a ≤ i ∧ i < p) ∨ (q < i ∧ i ≤ b)
          · rw [if_pos e2]
          · rw [if_neg e2, show a + b - i = i by omega]
        · rw [if_neg e, if_neg (by omega)]
      · have c : ¬ q ≤ p := fun z => c ((nI_leI (by omega) (by omega)).mpr z)
        have vp : vp_in (nI p) 12 := vp_in_nI (by omega) (by decide)
        have vq : vp_in (nI q) 12 := vp_in_nI (by omega) (by decide)
        refine ⟨vp, nm ⟨vq, vp, nm ⟨vq, nm ?_⟩⟩⟩
        rw [two, two, get, get, nI_clamp (show p < 2 ^ 31 by omega), nI_clamp (show q < 2 ^ 31 by omega), nI_1]
        obtain ⟨q', rfl⟩ : ∃ q', q = q' + 1 := ⟨q - 1, by omega⟩
        rw [nI_dec]
        refine ih (p + 1) q' _ (by omega) (by omega) (by omega) (by omega) (by omega) (fun i hi => ?_)
        by_cases e1 : i = q' + 1
        · subst e1
          rw [pk_us, hff p (by omega), if_neg (by omega), if_pos (by omega), show a + b - (q' + 1) = p by omega]
        · rw [pk_un e1]
          by_cases e2 : i = p
          · subst e2
            rw [pk_us, hff (q' + 1) (by omega), if_neg (by omega), if_pos (by omega), show a + b - i = q' + 1 by omega]
          · rw [pk_un e2, hff i hi]
            by_cases e3 : (a ≤ i ∧ i < p) ∨ (q' + 1 < i ∧ i ≤ b)
            · rw [if_pos e3, if_pos (by omega)]
            · rw [if_neg e3, if_neg (by omega)]
  have e : xs_Told_order X (x_Told_order X) = X := sA_self X 27
  have g := go (a + b) a b (x_Told_order X) (by omega) (by omega) rfl (Nat.le_refl _) (Nat.le_refl _) (fun i hi => by rw [hf i hi, if_neg (by omega)])
  rw [e] at g
  exact ⟨_, g⟩
theorem mturn_ok {X : ST} {T a b : Nat} {r : Nat → Nat} {post : ST → Prop} (hf : ∀ i, i < T → m_round X i = nI (r i)) (hT : T ≤ 12) (hab : a < b) (hb : b < T) (h : ∀ f, (∀ i, i < T → f i = nI (rvF r (a + 1) b i)) → post (ms_round X f)) : wp_m_turnRound X (nI a) (nI b) post := by
  have two : ∀ f g, ms_round (ms_round X f) g = ms_round X g := fun f g => sA_sA _ _ _ _
  have get : ∀ f, m_round (ms_round X f) = f := fun f => gA_sA _ _ _
  have go : ∀ (m p q : Nat) (f : Nat → Int32), q ≤ p + m → p ≤ q + 1 → p + q = a + 1 + b → a + 1 ≤ p → q ≤ b → (∀ i, i < T → f i = nI (if (a + 1 ≤ i ∧ i < p) ∨ (q < i ∧ i ≤ b) then r (a + 1 + b - i) else r i)) → wp_m_turnRound_7 (fun X4 => post X4) post (m + 1) (ms_round X f) (nI p) (nI q) := by
    intro m
    induction m with
    | zero =>
      intro p q f hm hpq hs hp hq hff
      refine yes (nI_le (by omega) (by omega)) (h f (fun i hi => ?_))
      rw [hff i hi]
      unfold rvF
      by_cases e : a + 1 ≤ i ∧ i ≤ b
      · rw [if_pos e]
        by_cases e2 : (a + 1 ≤ i ∧ i < p) ∨ (q < i ∧ i ≤ b)
        · rw [if_pos e2]
        · rw [if_neg e2, show a + 1 + b - i = i by omega]
      · rw [if_neg e, if_neg (by omega)]
    | succ m ih =>
      intro p q f hm hpq hs hp hq hff
      refine bh (fun c => ?_) (fun c => ?_)
      · have c := (nI_leI (by omega) (by omega)).mp c
        refine h f (fun i hi => ?_)
        rw [hff i hi]
        unfold rvF
        by_cases e : a + 1 ≤ i ∧ i ≤ b
        · rw [if_pos e]
          by_cases e2 : (a + 1 ≤ i ∧ i < p) ∨ (q < i ∧ i ≤ b)
          · rw [if_pos e2]
          · rw [if_neg e2, show a + 1 + b - i = i by omega]
        · rw [if_neg e, if_neg (by omega)]
      · have c : ¬ q ≤ p := fun z => c ((nI_leI (by omega) (by omega)).mpr z)
        have vp : vp_in (nI p) 12 := vp_in_nI (by omega) (by decide)
        have vq : vp_in (nI q) 12 := vp_in_nI (by omega) (by decide)
        refine ⟨vp, nm ⟨vq, vp, nm ⟨vq, nm ?_⟩⟩⟩
        rw [two, two, get, get, nI_clamp (show p < 2 ^ 31 by omega), nI_clamp (show q < 2 ^ 31 by omega), nI_1]
        obtain ⟨q', rfl⟩ : ∃ q', q = q' + 1 := ⟨q - 1, by omega⟩
        rw [nI_dec]
        refine ih (p + 1) q' _ (by omega) (by omega) (by omega) (by omega) (by omega) (fun i hi => ?_)
        by_cases e1 : i = q' + 1
        · subst e1
          rw [pk_us, hff p (by omega), if_neg (by omega), if_pos (by omega), show a + 1 + b - (q' + 1) = p by omega]
        · rw [pk_un e1]
          by_cases e2 : i = p
          · subst e2
            rw [pk_us, hff (q' + 1) (by omega), if_neg (by omega), if_pos (by omega), show a + 1 + b - i = q' + 1 by omega]
          · rw [pk_un e2, hff i hi]
            by_cases e3 : (a + 1 ≤ i ∧ i < p) ∨ (q' + 1 < i ∧ i ≤ b)
            · rw [if_pos e3, if_pos (by omega)]
            · rw [if_neg e3, if_neg (by omega)]
  have e : ms_round X (m_round X) = X := sA_self X 60
  have g := go (a + 1 + b) (a + 1) b (m_round X) (by omega) (by omega) rfl (Nat.le_refl _) (Nat.le_refl _) (fun i hi => by rw [hf i hi, if_neg (by omega)])
  rw [e] at g
  refine nm ?_
  rw [nI_1]
  exact ⟨_, g⟩
theorem PR.rv {M : ST} {K n : Nat} {r : Nat → Nat} (h : PR M K n r) {a b : Nat} (hb : b < n) : PR M K n (rvF r a b) := by
  have q : ∀ k, k < n → ∃ k', k' < n ∧ rvF r a b k = r k' ∧ k' = (if a ≤ k ∧ k ≤ b then a + b - k else k) := by
    intro k hk
    by_cases e : a ≤ k ∧ k ≤ b
    · exact ⟨a + b - k, by omega, rvF_in e, (if_pos e).symm⟩
    · exact ⟨k, hk, rvF_out e, (if_neg e).symm⟩
  refine ⟨h.1, fun i hi => ?_, fun i j hi hj e => ?_⟩
  · obtain ⟨k', h1, h2, _⟩ := q i hi
    rw [h2]
    exact h.2.1 k' h1
  · obtain ⟨i', h1, h2, h3⟩ := q i hi
    obtain ⟨j', g1, g2, g3⟩ := q j hj
    rw [h2, g2] at e
    have := h.2.2 i' j' h1 g1 e
    subst this
    rw [h3] at g3
    split at g3 <;> split at g3 <;> omega
theorem rv_rv {r : Nat → Nat} {a b k : Nat} : rvF (rvF r a b) a b k = r k := by
  by_cases e : a ≤ k ∧ k ≤ b
  · rw [rvF_in e, rvF_in (by omega)]
    congr 1
    omega
  · rw [rvF_out e, rvF_out e]
/-- what TK needs of a row that is told anew -/
theorem PR.tk {K T : Nat} {r r' : Nat → Nat} {X M : ST} {f g : Nat → Int32} (h : TK K T r X M) (hp : PR M K T r') (hf : ∀ i, i < T → f i = nI (r' i)) (hg : ∀ i, i < T → g i = nI (r' i)) : TK K T r' (xs_Told_order X f) (ms_round M g) := ⟨h.1, h.2.1, h.2.2.1, fun i hi => ⟨hf i hi, hg i hi, hp.2.1 i hi⟩, hp.2.2⟩
theorem toldW (X : ST) (f : Nat → Int32) : x_ways (xs_Told_order X f) = x_ways X := ways_sA (by decide) _ _
theorem toldG (X : ST) (f : Nat → Int32) : x_gaps (xs_Told_order X f) = x_gaps X := gaps_sA (by decide) _ _
theorem InvD.told {n K T : Nat} {d : Nat → Nat → Nat} {r r' : Nat → Nat} {X M : ST} {f g : Nat → Int32} (h : InvD n d X M) (hm : ML d K M) (ht : TK K T r X M) (hp : PR M K T r') (hf : ∀ i, i < T → f i = nI (r' i)) (hg : ∀ i, i < T → g i = nI (r' i)) : InvD n d (xs_Told_order X f) (ms_round M g) := by
  obtain ⟨h1, h2, h3, h4, h5, h6, h7⟩ := h
  exact ⟨(h1.fr rfl rfl rfl rfl rfl rfl rfl rfl rfl rfl), (h2.fr rfl rfl rfl rfl rfl rfl), (h3.fr rfl (toldW _ _) rfl rfl rfl rfl rfl rfl), h4.fr rfl rfl rfl rfl rfl rfl rfl rfl rfl rfl rfl rfl, (h5.fr rfl (toldG _ _) rfl rfl rfl rfl rfl rfl rfl), (PR.tk ht hp hf hg).it hm.2.1 hm.1, (h7.fr rfl rfl rfl rfl rfl rfl rfl rfl)⟩
theorem ls_turn (n : Nat) (X M : ST) (a1 a2 : Int32) (_ : n < 512) (h : Inv n X M) : wp_LR_turn X a1 a2 (fun r X1 => wp_m_turn M a1 a2 (fun q M1 => r = q ∧ Inv (n + 1) X1 M1)) := by
  have hu := h.up
  obtain ⟨d, hd⟩ := h
  obtain ⟨K, hk, hm⟩ := hd.ml
  have hK := hm.1
  obtain ⟨T, r, ht⟩ := hd.2.2.2.2.2.1.tk hm.2.1 hK
  have hT := ht.1
  refine isWhole_ok hk ht (fun q => no1 (misWhole_ok hk ht (fun _ => no1 ⟨rfl, hu⟩) (fun a b => absurd ⟨a, b⟩ q))) (fun q1 q2 => ya1 ?_)
  have pr := ht.pr q1
  have mw : ∀ {P : Int32 → ST → Prop}, P 1 M → wp_m_isWhole M P := fun hP => misWhole_ok hk ht (fun z => absurd ⟨q1, q2⟩ z) (fun _ _ => hP)
  refine bh (fun c => mw (ya1 (yes c ⟨rfl, hu⟩))) (fun c => bh (fun c2 => mw (ya1 (nay c (yes c2 ⟨rfl, hu⟩)))) (fun c2 => ?_))
  rw [ht.2.1]
  refine bh (fun c3 => ?_) (fun c3 => mw (ya1 (nay c (nay c2 (nay (by rw [ht.2.2.1]; exact c3) ⟨rfl, hu⟩)))))
  obtain ⟨i, hi, rfl⟩ := nI_of c
  obtain ⟨j, hj, rfl⟩ := nI_of (x := a2) (fun z => c2 (by
    rw [Int32.lt_iff_toInt_lt] at z
    rw [Int32.le_iff_toInt_le, nI_toInt hi]
    have y0 : (0 : Int32).toInt = 0 := rfl
    omega))
  rw [nI_leI hj hi] at c2
  have c3' := (nI_ltI hj (by omega)).mp c3
  rw [nI_1]
  refine reverse_ok (fun i hi => (ht.2.2.2.1 i hi).1) hT (by omega) (by omega) c3' (fun f hf => mw (ya1 (nay c (nay (by rw [nI_leI hj hi]; exact c2) (yes (by rw [ht.2.2.1]; exact c3) (mturn_ok (fun i hi => (ht.2.2.2.1 i hi).2.1) hT (by omega) c3' (fun g hg => ⟨rfl, Inv.up ⟨d, hd.told hm ht (pr.rv c3') hf hg⟩⟩)))))))
