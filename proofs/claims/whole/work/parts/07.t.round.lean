/-! PURE: THE TOLD ROUND's length, TWINS kept -/
theorem i32 {x y : Int32} : x = y ↔ x.toInt = y.toInt := Int32.toInt_inj.symm
theorem nI_subI {i j : Nat} (hi : i < 1000) (hj : j < 1000) : (nI i - nI j).toInt = (i : Int) - (j : Int) := by
  rw [Int32.toInt_sub, nI_toInt (by omega), nI_toInt (by omega)]
  exact Int.bmod_eq_of_le (by omega) (by omega)
theorem nI_dec (q : Nat) : nI (q + 1) + (-1) = nI q := by
  have := nI_pred q
  rw [Int32.sub_eq_add_neg] at this
  exact this
def nxp (n i : Nat) : Nat := if i + 1 < n then i + 1 else 0
def pvp (n i : Nat) : Nat := if 0 < i then i - 1 else n - 1
theorem nxp_lt {n i : Nat} (h : i < n) : nxp n i < n := by unfold nxp; split <;> omega
theorem pvp_lt {n i : Nat} (h : i < n) : pvp n i < n := by unfold pvp; split <;> omega
theorem nxp_pv {n i j : Nat} (hi : i < n) (hj : j < n) : j = nxp n i ↔ i = pvp n j := by
  unfold nxp pvp; split <;> split <;> omega
theorem nxp_mod {n i : Nat} (h : i < n) : (i + 1) % n = nxp n i := by
  unfold nxp
  split
  · next c => exact Nat.mod_eq_of_lt c
  · next c => rw [show i + 1 = n by omega, Nat.mod_self]
/-- the length, up to place k, with 1000000 for a WAY that isn't there -/
def lsum (w : Nat → Nat → Nat) (r : Nat → Nat) (n : Nat) : Nat → Nat
  | 0 => 0
  | k + 1 => lsum w r n k + cv (w (r k) (r (nxp n k)))
theorem lsum_s (w : Nat → Nat → Nat) (r : Nat → Nat) (n k : Nat) : lsum w r n (k + 1) = lsum w r n k + cv (w (r k) (r (nxp n k))) := rfl
theorem cv_n {v : Nat} (h : v ≠ FARN) : cv v = v := if_neg h
theorem cv_f {v : Nat} (h : v = FARN) : cv v = 1000000 := if_pos h
/-- a row of all LAMPS that aren't OUT -/
def PR (M : ST) (K n : Nat) (r : Nat → Nat) : Prop := n = cn (lv M) K ∧ (∀ i, i < n → r i < K ∧ m_isOut M (r i) = 0) ∧ ∀ i j, i < n → j < n → r i = r j → i = j
theorem PR.full {M : ST} {K n l : Nat} {r : Nat → Nat} (h : PR M K n r) (hl : l < K) (hv : m_isOut M l = 0) : ∃ i, i < n ∧ r i = l := by
  rcases Classical.em (∃ i, i < n ∧ r i = l) with q | q
  · exact q
  · have : n + 1 ≤ cn (lv M) K := by
      refine inj_cn _ K (n + 1) (fun i => if i = n then l else r i) (fun i hi => ?_) (fun i j hi hj e => ?_)
      · by_cases e : i = n
        · simp only [if_pos e]; exact ⟨hl, decide_eq_true hv⟩
        · simp only [if_neg e]; exact ⟨(h.2.1 i (by omega)).1, decide_eq_true (h.2.1 i (by omega)).2⟩
      · by_cases e1 : i = n
        · by_cases e2 : j = n
          · omega
          · simp only [if_pos e1, if_neg e2] at e
            exact absurd ⟨j, by omega, e.symm⟩ q
        · by_cases e2 : j = n
          · simp only [if_neg e1, if_pos e2] at e
            exact absurd ⟨i, by omega, e⟩ q
          · simp only [if_neg e1, if_neg e2] at e
            exact h.2.2 i j (by omega) (by omega) e
    have := h.1
    omega
theorem TK.pr {K T : Nat} {r : Nat → Nat} {X M : ST} (h : TK K T r X M) (hT : T = cn (lv M) K) : PR M K T r := ⟨hT, fun i hi => (h.2.2.2.1 i hi).2.2, h.2.2.2.2⟩
theorem PR.n12 {M : ST} {K n : Nat} {r : Nat → Nat} (h : PR M K n r) (hK : K ≤ 12) : n ≤ 12 := by
  have := h.1
  have := cn_le (lv M) K
  omega
theorem TK.sv {K T : Nat} {r : Nat → Nat} {X X' M : ST} (h : TK K T r X M) (s : SV X X') : TK K T r X' M := by
  unfold TK at h ⊢
  rw [show x_Told_count X' = x_Told_count X from s.1 4 (by decide), show x_Told_order X' = x_Told_order X from s.2.2.1 27 (by decide) (by decide) (by decide)]
  exact h
theorem isWhole_ok {n K T : Nat} {r : Nat → Nat} {X M : ST} (hk : LampK n K X M) (ht : TK K T r X M) {post : Int32 → ST → Prop} (h0 : ¬ (T = cn (lv M) K ∧ 3 ≤ T) → post 0 X) (h1 : T = cn (lv M) K → 3 ≤ T → post 1 X) : wp_Told_isWhole X post := by
  have hT := ht.1
  have hK := hk.1
  have hc := cn_le (lv M) K
  unfold wp_Told_isWhole
  rw [ht.2.1]
  refine bh (fun c => h0 ?_) (fun c => liveCount_ok hk (bn (fun e => h0 ?_) (fun e => h1 ?_ ?_)))
  · have := (nI_ltI (b := 3) (by omega) (by decide)).mp c
    omega
  · rw [nI_eq (by omega) (by omega)] at e
    omega
  · exact (nI_eq (by omega) (by omega)).mp e
  · have : ¬ T < 3 := fun q => c ((nI_ltI (b := 3) (by omega) (by decide)).mpr q)
    omega
theorem misWhole_ok {n K T : Nat} {r : Nat → Nat} {X M : ST} (hk : LampK n K X M) (ht : TK K T r X M) {post : Int32 → ST → Prop} (h0 : ¬ (T = cn (lv M) K ∧ 3 ≤ T) → post 0 M) (h1 : T = cn (lv M) K → 3 ≤ T → post 1 M) : wp_m_isWhole M post := by
  have hT := ht.1
  have hK := hk.1
  have hc := cn_le (lv M) K
  refine lit_ok hk ?_
  rw [ht.2.2.1]
  refine bn (fun e => h0 ?_) (fun e => bh (fun c => h0 ?_) (fun c => h1 ?_ ?_))
  · rw [nI_eq (by omega) (by omega)] at e
    omega
  · have := (nI_ltI (b := 3) (by omega) (by decide)).mp c
    omega
  · exact (nI_eq (by omega) (by omega)).mp e
  · have : ¬ T < 3 := fun q => c ((nI_ltI (b := 3) (by omega) (by decide)).mpr q)
    omega
theorem after_ok {X : ST} {T i : Nat} {post : Int32 → ST → Prop} (hc : x_Told_count X = nI T) (hT : T ≤ 12) (hi : i < T) (h : post (nI (nxp T i)) X) : wp_Told_after X (nI i) post := by
  unfold wp_Told_after
  rw [hc, nI_1]
  unfold nxp at h
  refine bh (fun c => ?_) (fun c => ?_)
  · rw [nI_leI (by omega) (by omega)] at c
    rw [if_neg (by omega)] at h
    exact h
  · rw [nI_leI (by omega) (by omega)] at c
    rw [if_pos (by omega)] at h
    exact h
theorem nI_m {q : Nat} (h : 0 < q) : nI q - 1 = nI (q - 1) := by
  obtain ⟨p, rfl⟩ : ∃ p, q = p + 1 := ⟨q - 1, by omega⟩
  exact nI_pred p
theorem before_ok {X : ST} {T i : Nat} {post : Int32 → ST → Prop} (hc : x_Told_count X = nI T) (hT : T ≤ 12) (hi : i < T) (h : post (nI (pvp T i)) X) : wp_Told_before X (nI i) post := by
  unfold wp_Told_before
  rw [hc]
  unfold pvp at h
  refine bh (fun c => ?_) (fun c => ?_)
  · have := (nI_leI (b := 0) (by omega) (by decide)).mp c
    rw [if_neg (by omega)] at h
    rw [nI_m (by omega)]
    exact h
  · have : ¬ i ≤ 0 := fun q => c ((nI_leI (b := 0) (by omega) (by decide)).mpr q)
    rw [if_pos (by omega)] at h
    rw [nI_m (by omega)]
    exact h
theorem ML.wcv {d : Nat → Nat → Nat} {K : Nat} {M : ST} (h : ML d K M) {i j : Nat} (hi : i < K) (hj : j < K) : cv (wL M d i j) ≤ 1000000 := by
  unfold cv
  split
  · exact Nat.le_refl _
  · next c =>
    have := h.w39 hi hj c
    omega
theorem lsum_le {d : Nat → Nat → Nat} {K n : Nat} {M : ST} {r : Nat → Nat} (h : ML d K M) (hr : ∀ i, i < n → r i < K) : ∀ k, k ≤ n → lsum (wL M d) r n k ≤ 1000000 * k
  | 0, _ => Nat.le_refl 0
  | k + 1, hk => by
    have := lsum_le h hr k (by omega)
    have := h.wcv (hr k (by omega)) (hr (nxp n k) (nxp_lt (by omega)))
    rw [lsum_s]
    omega
theorem lsum_small {d : Nat → Nat → Nat} {K n : Nat} {M : ST} {r : Nat → Nat} (h : ML d K M) (hr : ∀ i, i < n → r i < K) : ∀ k, k ≤ n → (∀ i, i < k → wL M d (r i) (r (nxp n i)) ≠ FARN) → lsum (wL M d) r n k ≤ 39000 * k
  | 0, _, _ => Nat.le_refl 0
  | k + 1, hk, hf => by
    have := lsum_small h hr k (by omega) (fun i hi => hf i (by omega))
    have := h.w39 (hr k (by omega)) (hr (nxp n k) (nxp_lt (by omega))) (hf k (by omega))
    rw [lsum_s, cv_n (hf k (by omega))]
    omega
theorem lsum_far {w : Nat → Nat → Nat} {r : Nat → Nat} {n i : Nat} (hf : w (r i) (r (nxp n i)) = FARN) : ∀ k, i < k → 1000000 ≤ lsum w r n k
  | 0, hk => absurd hk (by omega)
  | k + 1, hk => by
    rw [lsum_s]
    by_cases e : i = k
    · subst e
      rw [cv_f hf]
      omega
    · have := lsum_far hf k (by omega)
      omega
theorem measure_ok {n K T : Nat} {d : Nat → Nat → Nat} {r : Nat → Nat} {X M : ST} {post : Int32 → ST → Prop} (h : InvD n d X M) (hm : ML d K M) (ht : TK K T r X M) (hp : ∀ X', InvD n d X' M → SV X X' → ¬ x_Lamps_surveyed X' = 0 → post (nI (lsum (wL M d) r T T)) X') : wp_Told_measure X post := by
  have hK := hm.1
  refine survey_ok h (fun X' hX' sv hs => ?_)
  have ht' := ht.sv sv
  obtain ⟨t1, t2, t3, t4, t5⟩ := id ht'
  have go : ∀ (m i : Nat), i + m = T → wp_Told_measure_11 (fun X7 v8 => post v8 X7) post (m + 1) X' (nI (lsum (wL M d) r T i)) (nI i) := by
    intro m
    induction m with
    | zero =>
      intro i hi
      have : i = T := by omega
      subst this
      exact yes (by rw [t2]; exact nI_le (Nat.le_refl _) (by omega)) (hp X' hX' sv hs)
    | succ m ih =>
      intro i hi
      have hi2 : i < T := by omega
      have hn2 := nxp_lt hi2
      have q1 := t4 i hi2
      have q2 := t4 _ hn2
      refine nay (by rw [t2]; exact nI_ge hi2 (by omega)) ⟨vp_in_nI (by omega) (by decide), ?_⟩
      rw [nI_clamp (show i < 2 ^ 31 by omega), q1.1]
      refine ⟨vp_in_nI (by omega) (by decide), after_ok t2 t1 hi2 ⟨vp_in_nI (by omega) (by decide), ?_⟩⟩
      rw [nI_clamp (show nxp T i < 2 ^ 31 by omega), q2.1]
      refine ⟨vp_in_nI (by omega) (by decide), nm ?_⟩
      rw [nI_clamp (show r i < 2 ^ 31 by omega), nI_clamp (show r (nxp T i) < 2 ^ 31 by omega), (ISurv.at hX' hm hs q1.2.2.1).1 _ q2.2.2.1, nI_add, nI_1]
      exact ih (i + 1) (by omega)
  exact ⟨_, go T 0 (by omega)⟩
theorem lengthOf_ok {k1 K n : Nat} {d : Nat → Nat → Nat} {r : Nat → Nat} {M : ST} {post : Int32 → ST → Prop} (hm : ML d K M) (hr : ∀ i, i < n → M.2.2.1 k1 i = nI (r i) ∧ r i < K) (hn : n ≤ 12) (h0 : (∃ i, i < n ∧ wL M d (r i) (r (nxp n i)) = FARN) → post 1000000000 M) (h1 : (∀ i, i < n → wL M d (r i) (r (nxp n i)) ≠ FARN) → post (nI (lsum (wL M d) r n n)) M) : wp_m_lengthOf M k1 12 (nI n) post := by
  have hK := hm.1
  have hF : FARN = 1000000000 := rfl
  have go : ∀ (m i : Nat) (s : Int32), i + m = n → ((s = 1000000000 ∧ ∃ j, j < i ∧ wL M d (r j) (r (nxp n j)) = FARN) ∨ (s = nI (lsum (wL M d) r n i) ∧ ∀ j, j < i → wL M d (r j) (r (nxp n j)) ≠ FARN)) → wp_m_lengthOf_5 k1 12 (fun M4 v5 => post v5 M4) post (m + 1) M (nI n) s (nI i) := by
    intro m
    induction m with
    | zero =>
      intro i s hi hs
      have : i = n := by omega
      subst this
      refine yes (nI_le (Nat.le_refl _) (by omega)) ?_
      rcases hs with ⟨rfl, q⟩ | ⟨rfl, q⟩
      · exact h0 q
      · exact h1 q
    | succ m ih =>
      intro i s hi hs
      have hi2 : i < n := by omega
      have hn2 := nxp_lt hi2
      have q1 := hr i hi2
      have q2 := hr _ hn2
      have er : (nI i + 1) - (nI i + 1) / nI n * nI n = nI (nxp n i) := by
        rw [nI_1, pk_rem (by omega) (by omega) (by omega), nxp_mod hi2]
      refine nay (nI_ge hi2 (by omega)) ⟨vp_in_nI (by omega) (by decide), nI_ne0 (by omega) (by omega), ?_⟩
      rw [er, nI_clamp (show i < 2 ^ 31 by omega), nI_clamp (show nxp n i < 2 ^ 31 by omega), q1.1, q2.1]
      refine ⟨vp_in_nI (by omega) (by decide), between_ok hm q1.2 q2.2 ?_⟩
      have wl := hm.wle q1.2 q2.2
      rw [nI_1]
      refine bh (fun c => ih (i + 1) _ (by omega) (Or.inl ⟨rfl, i, by omega, ?_⟩)) (fun c => ?_)
      · have := (nI_eq (b := 1000000000) (by omega) (by decide)).mp c
        omega
      · have c' : wL M d (r i) (r (nxp n i)) ≠ FARN := fun q => c (by rw [q]; rfl)
        rcases hs with ⟨rfl, j, hj, q⟩ | ⟨rfl, q⟩
        · exact yes' rfl (ih (i + 1) _ (by omega) (Or.inl ⟨rfl, j, by omega, q⟩))
        · have sm := lsum_small hm (fun i hi => (hr i hi).2) i (by omega) q
          refine nay' (fun z => ?_) (nm ?_)
          · have := (nI_eq (b := 1000000000) (by omega) (by decide)).mp z
            omega
          · rw [nI_add]
            refine ih (i + 1) _ (by omega) (Or.inr ⟨?_, fun j hj => ?_⟩)
            · rw [lsum_s, cv_n c']
            · by_cases e : j = i
              · subst e; exact c'
              · exact q j (by omega)
  exact ⟨_, go n 0 0 (by omega) (Or.inr ⟨rfl, fun j hj => absurd hj (by omega)⟩)⟩
theorem ls_length (n : Nat) (X M : ST) (_ : n < 512) (h : Inv n X M) : wp_LR_length X (fun r X1 => wp_m_length M (fun q M1 => r = q ∧ Inv (n + 1) X1 M1)) := by
  have hu := h.up
  obtain ⟨d, hd⟩ := h
  obtain ⟨K, hk, hm⟩ := hd.ml
  have hK := hm.1
  obtain ⟨T, r, ht⟩ := hd.2.2.2.2.2.1.tk hm.2.1 hK
  have hT := ht.1
  have hr : ∀ i, i < T → r i < K := fun i hi => (ht.2.2.2.1 i hi).2.2.1
  refine isWhole_ok hk ht (fun q => no1 (misWhole_ok hk ht (fun _ => no1 ⟨rfl, hu⟩) (fun a b => absurd ⟨a, b⟩ q))) (fun q1 q2 => ya1 ?_)
  refine measure_ok hd hm ht (fun X' hX' sv hs => ?_)
  have hi : Inv (n + 1) X' M := Inv.up ⟨d, hX'⟩
  have le := lsum_le hm hr T (Nat.le_refl _)
  have mm : ∀ {P : Int32 → ST → Prop}, ((∃ i, i < T ∧ wL M d (r i) (r (nxp T i)) = FARN) → P (-10) M) → ((∀ i, i < T → wL M d (r i) (r (nxp T i)) ≠ FARN) → P (nI (lsum (wL M d) r T T)) M) → wp_m_length M P := by
    intro P p1 p2
    refine misWhole_ok hk ht (fun z => absurd ⟨q1, q2⟩ z) (fun _ _ => ya1 ?_)
    rw [ht.2.2.1]
    refine lengthOf_ok hm (fun i hi => ⟨(ht.2.2.2.1 i hi).2.1, hr i hi⟩) hT (fun z => yes' rfl (p1 z)) (fun z => nay' (fun y => ?_) (p2 z))
    have sm := lsum_small hm hr T (Nat.le_refl _) z
    have := (nI_eq (b := 1000000000) (by omega) (by decide)).mp y
    omega
  refine bh (fun c => mm (fun ⟨i, h1, h2⟩ => ?_) (fun z => ⟨rfl, hi⟩)) (fun c => mm (fun _ => ⟨rfl, hi⟩) (fun z => ?_))
  · have := lsum_far h2 T h1
    have := (nI_ltI (b := 1000000) (by omega) (by decide)).mp c
    omega
  · have sm := lsum_small hm hr T (Nat.le_refl _) z
    exact absurd ((nI_ltI (b := 1000000) (by omega) (by decide)).mpr (by omega)) c
