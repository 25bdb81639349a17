/-! PURE: the next order of a row -/
def swp (r : Nat → Nat) (i j : Nat) : Nat → Nat := fun k => if k = i then r j else if k = j then r i else r k
theorem swp_i {r : Nat → Nat} {i j : Nat} : swp r i j i = r j := if_pos rfl
theorem swp_j {r : Nat → Nat} {i j : Nat} (h : j ≠ i) : swp r i j j = r i := by unfold swp; rw [if_neg h, if_pos rfl]
theorem swp_o {r : Nat → Nat} {i j k : Nat} (h : k ≠ i) (g : k ≠ j) : swp r i j k = r k := by unfold swp; rw [if_neg h, if_neg g]
theorem PR.sw {M : ST} {K n : Nat} {r : Nat → Nat} (h : PR M K n r) {i j : Nat} (hi : i < n) (hj : j < n) (hij : i ≠ j) : PR M K n (swp r i j) := by
  have q : ∀ k, k < n → ∃ k', k' < n ∧ swp r i j k = r k' ∧ k' = (if k = i then j else if k = j then i else k) := by
    intro k hk
    by_cases e : k = i
    · subst e; exact ⟨j, hj, swp_i, (if_pos rfl).symm⟩
    · by_cases e2 : k = j
      · subst e2; exact ⟨i, hi, swp_j e, by rw [if_neg e, if_pos rfl]⟩
      · exact ⟨k, hk, swp_o e e2, by rw [if_neg e, if_neg e2]⟩
  refine ⟨h.1, fun a ha => ?_, fun a b ha hb e => ?_⟩
  · obtain ⟨k', h1, h2, _⟩ := q a ha
    rw [h2]
    exact h.2.1 k' h1
  · obtain ⟨i', h1, h2, h3⟩ := q a ha
    obtain ⟨j', g1, g2, g3⟩ := q b hb
    rw [h2, g2] at e
    have := h.2.2 i' j' h1 g1 e
    subst this
    rw [h3] at g3
    repeat' (split at g3)
    all_goals omega
/-- the row behind r in the order of rows -/
def nxo (n : Nat) (r : Nat → Nat) (i j : Nat) : Nat → Nat := rvF (swp r i j) (i + 1) (n - 1)
/-- where the row is turned: the last rise, the last that is above it -/
def NI (n : Nat) (r : Nat → Nat) (i j : Nat) : Prop := 1 ≤ i ∧ i + 1 < n ∧ r i < r (i + 1) ∧ (∀ k, i < k → k + 1 < n → r (k + 1) < r k) ∧ i < j ∧ j < n ∧ r i < r j ∧ ∀ k, j < k → k < n → r k < r i
theorem dec_le {n i : Nat} {r : Nat → Nat} (h : ∀ k, i < k → k + 1 < n → r (k + 1) < r k) {a : Nat} (ha : i < a) : ∀ b, a ≤ b → b < n → r b ≤ r a
  | 0, h1, h2 => by
    have : a = 0 := by omega
    subst this; exact Nat.le_refl _
  | b + 1, h1, h2 => by
    by_cases e : a = b + 1
    · subst e; exact Nat.le_refl _
    · have := dec_le h ha b (by omega) (by omega)
      have := h b (by omega) h2
      omega
theorem dec_lt {n i : Nat} {r : Nat → Nat} (h : ∀ k, i < k → k + 1 < n → r (k + 1) < r k) {a b : Nat} (ha : i < a) (hab : a < b) (hb : b < n) : r b < r a := by
  obtain ⟨c, rfl⟩ : ∃ c, b = c + 1 := ⟨b - 1, by omega⟩
  have := dec_le h ha c (by omega) (by omega)
  have := h c (by omega) hb
  omega
/-- of rows that begin alike, what stands at the first other place stands behind it in the other row -/
theorem PR.later {M : ST} {K n p : Nat} {r s : Nat → Nat} (h : PR M K n r) (g : PR M K n s) (hp : p < n) (e : ∀ i, i < p → r i = s i) : ∃ k, p ≤ k ∧ k < n ∧ r k = s p := by
  have a := g.2.1 p hp
  obtain ⟨k, hk, ek⟩ := h.full a.1 a.2
  refine ⟨k, ?_, hk, ek⟩
  rcases Nat.lt_or_ge k p with q | q
  · have := g.2.2 k p (by omega) hp (by rw [← e k q]; exact ek)
    omega
  · exact q
theorem next_pr {M : ST} {K n i j : Nat} {r : Nat → Nat} (h : PR M K n r) (q : NI n r i j) : PR M K n (nxo n r i j) := (h.sw (by have := q.2.1; omega) q.2.2.2.2.2.1 (by have := q.2.2.2.2.1; omega)).rv (by have := q.2.1; omega)
theorem nxo_lo {n i j k : Nat} {r : Nat → Nat} (q : NI n r i j) (hk : k < i) : nxo n r i j k = r k := by
  have := q.2.2.2.2.1
  unfold nxo
  rw [rvF_out (by omega), swp_o (by omega) (by omega)]
theorem nxo_i {n i j : Nat} {r : Nat → Nat} : nxo n r i j i = r j := by
  unfold nxo
  rw [rvF_out (by omega), swp_i]
theorem nxo_hi {n i j k : Nat} {r : Nat → Nat} (h1 : i < k) (h2 : k < n) : nxo n r i j k = swp r i j (i + n - k) := by
  unfold nxo
  rw [rvF_in (by omega)]
  congr 1
  omega
theorem next_lt {n i j : Nat} {r : Nat → Nat} (q : NI n r i j) (hr : ∀ k, k < n → r k < 16) : vl r n < vl (nxo n r i j) n := by
  have := q.2.1
  refine vl_of (p := i) (by omega) hr (fun k hk => (nxo_lo q hk).symm) ?_
  rw [nxo_i]
  exact q.2.2.2.2.2.2.1
/-- behind the turned place the new row rises -/
theorem next_rise {n i j : Nat} {r : Nat → Nat} (q : NI n r i j) {a b : Nat} (ha : i < a) (hab : a < b) (hb : b < n) : nxo n r i j a < nxo n r i j b := by
  obtain ⟨q1, q2, q3, q4, q5, q6, q7, q8⟩ := q
  rw [nxo_hi ha (by omega), nxo_hi (by omega) hb]
  -- a' = i + n - a > b' = i + n - b, both behind i
  have hlt : i + n - b < i + n - a := by omega
  have h1 : i < i + n - b := by omega
  have h2 : i + n - a < n := by omega
  generalize i + n - a = a' at *
  generalize i + n - b = b' at *
  by_cases e1 : a' = j
  · subst e1
    rw [swp_j (by omega), swp_o (by omega) (by omega)]
    have := dec_lt q4 (a := b') h1 hlt h2
    omega
  · by_cases e2 : b' = j
    · subst e2
      rw [swp_j (by omega), swp_o (by omega) (by omega)]
      exact q8 a' (by omega) h2
    · rw [swp_o (by omega) e1, swp_o (by omega) e2]
      exact dec_lt q4 h1 hlt h2
theorem next_ge {M : ST} {K n i j : Nat} {r s : Nat → Nat} (hK : K ≤ 12) (h : PR M K n r) (g : PR M K n s) (q : NI n r i j) (lt : vl r n < vl s n) : vl (nxo n r i j) n ≤ vl s n := by
  have dr : ∀ k, k < n → r k < 16 := fun k hk => by have := (h.2.1 k hk).1; omega
  have ds : ∀ k, k < n → s k < 16 := fun k hk => by have := (g.2.1 k hk).1; omega
  have hx := next_pr h q
  have dx : ∀ k, k < n → nxo n r i j k < 16 := fun k hk => by have := (hx.2.1 k hk).1; omega
  rcases Nat.lt_or_ge (vl s n) (vl (nxo n r i j) n) with z | z
  · exfalso
    obtain ⟨p, p1, p2, p3⟩ := vl_fd n dr ds lt
    obtain ⟨t, t1, t2, t3⟩ := vl_fd n ds dx z
    obtain ⟨q1, q2, q3, q4, q5, q6, q7, q8⟩ := id q
    -- where s leaves r
    obtain ⟨k, k1, k2, k3⟩ := h.later g p1 p2
    have pi : p ≤ i := by
      rcases Nat.lt_or_ge i p with y | y
      · have := dec_le q4 y k k1 k2
        omega
      · exact y
    -- where s leaves the new row
    obtain ⟨k', k1', k2', k3'⟩ := hx.later g t1 (fun a ha => (t2 a ha).symm)
    by_cases ep : p = i
    · subst ep
      by_cases et : t < p
      · rw [nxo_lo q et, p2 t et] at t3
        omega
      · by_cases et2 : t = p
        · subst et2
          rw [nxo_i] at t3
          have kk : t < k := by
            rcases Nat.lt_or_ge t k with y | y
            · exact y
            · have : k = t := by omega
              subst this; omega
          rcases Nat.lt_or_ge j k with y | y
          · have := q8 k y k2; omega
          · have := dec_le q4 kk j y q6; omega
        · by_cases e3 : k' = t
          · subst e3; omega
          · have := next_rise q (a := t) (b := k') (by omega) (by omega) k2'
            omega
    · by_cases et : t < p
      · rw [nxo_lo q (by omega), p2 t et] at t3
        omega
      · by_cases et2 : t = p
        · subst et2
          rw [nxo_lo q (by omega)] at t3
          omega
        · have := t2 p (by omega)
          rw [nxo_lo q (by omega)] at this
          omega
  · exact z
/-- no row behind one that falls from place 1 on -/
theorem next_none {M : ST} {K n : Nat} {r s : Nat → Nat} (hK : K ≤ 12) (h : PR M K n r) (g : PR M K n s) (e0 : r 0 = s 0) (q : ∀ k, 0 < k → k + 1 < n → r (k + 1) < r k) : vl s n ≤ vl r n := by
  have dr : ∀ k, k < n → r k < 16 := fun k hk => by have := (h.2.1 k hk).1; omega
  have ds : ∀ k, k < n → s k < 16 := fun k hk => by have := (g.2.1 k hk).1; omega
  rcases Nat.lt_or_ge (vl r n) (vl s n) with z | z
  · obtain ⟨p, p1, p2, p3⟩ := vl_fd n dr ds z
    obtain ⟨k, k1, k2, k3⟩ := h.later g p1 p2
    have p0 : 0 < p := by
      rcases Nat.lt_or_ge 0 p with y | y
      · exact y
      · have : p = 0 := by omega
        subst this; omega
    have := dec_le q p0 k k1 k2
    omega
  · exact z
/-- the first row: none ahead of it -/
theorem first_row {M : ST} {d : Nat → Nat → Nat} {K n : Nat} {e s : Nat → Nat} (ev : Ev M d K n e) (g : PR M K n s) : vl e n ≤ vl s n := by
  have hK := ev.1.1
  have de : ∀ k, k < n → e k < 16 := fun k hk => by have := (ev.2.2.1 k hk).1; omega
  have ds : ∀ k, k < n → s k < 16 := fun k hk => by have := (g.2.1 k hk).1; omega
  rcases Nat.lt_or_ge (vl s n) (vl e n) with z | z
  · obtain ⟨p, p1, p2, p3⟩ := vl_fd n ds de z
    have a := g.2.1 p p1
    obtain ⟨t, ht, et⟩ := ev.2.2.2.2.1 _ a.1 a.2
    have tp : t < p := by
      rcases Nat.lt_or_ge t p with y | y
      · exact y
      · by_cases y2 : t = p
        · subst y2; omega
        · have := ev.2.2.2.1 p t (by omega) ht; omega
    have := g.2.2 t p (by omega) p1 (by rw [p2 t tp]; exact et)
    omega
  · exact z
theorem Ev.pr {M : ST} {d : Nat → Nat → Nat} {K n : Nat} {e : Nat → Nat} (ev : Ev M d K n e) : PR M K n e := ⟨ev.2.1, ev.2.2.1, fun i j hi hj q => by
  rcases Nat.lt_trichotomy i j with y | y | y
  · have := ev.2.2.2.1 i j y hj; omega
  · exact y
  · have := ev.2.2.2.1 j i y hi; omega⟩
theorem mord2 (M : ST) (f g : Nat → Int32) : ms_order (ms_order M f) g = ms_order M g := sA_sA _ _ _ _
theorem mordg (M : ST) (f : Nat → Int32) : m_order (ms_order M f) = f := gA_sA _ _ _
theorem mords (M : ST) : ms_order M (m_order M) = M := sA_self M 64
theorem swap_ok {M : ST} {n i j : Nat} {r : Nat → Nat} {f : Nat → Int32} {post : ST → Prop} (hn : n ≤ 12) (hf : ∀ k, k < n → f k = nI (r k)) (hi : i < n) (hj : j < n) (hij : i ≠ j) (h : ∀ f', (∀ k, k < n → f' k = nI (swp r i j k)) → post (ms_order M f')) : wp_m_swap (ms_order M f) (nI i) (nI j) post := by
  have v : ∀ k, k < 12 → vp_in (nI k) 12 := fun k hk => vp_in_nI hk (by decide)
  refine ⟨v _ (by omega), nm ⟨v _ (by omega), v _ (by omega), nm ⟨v _ (by omega), nm ?_⟩⟩⟩
  rw [mord2, mord2, mordg, mordg, nI_clamp (show i < 2 ^ 31 by omega), nI_clamp (show j < 2 ^ 31 by omega)]
  refine h _ (fun k hk => ?_)
  by_cases e : k = j
  · subst e; rw [pk_us, swp_j (by omega), hf i hi]
  · rw [pk_un e]
    by_cases e2 : k = i
    · subst e2; rw [pk_us, swp_i, hf j hj]
    · rw [pk_un e2, swp_o e2 e, hf k hk]
theorem mrev80 {M : ST} {n a b : Nat} {r : Nat → Nat} {f : Nat → Int32} {K104 : ST → Prop} {post : Int32 → ST → Prop} (hn : n ≤ 12) (hf : ∀ k, k < n → f k = nI (r k)) (hab : a ≤ b) (hb : b < n) (ha : 1 ≤ a) (h : ∀ f', (∀ k, k < n → f' k = nI (rvF r a b k)) → K104 (ms_order M f')) : ∃ m, wp_m_nextOrder_80 K104 post m (ms_order M f) (nI a) (nI b) := by
  have go : ∀ (m p q : Nat) (f : Nat → Int32), q ≤ p + m → p ≤ q + 1 → p + q = a + b → a ≤ p → q ≤ b → (∀ i, i < n → f i = nI (if (a ≤ i ∧ i < p) ∨ (q < i ∧ i ≤ b) then r (a + b - i) else r i)) → wp_m_nextOrder_80 K104 post (m + 1) (ms_order M f) (nI p) (nI q) := by
    have fin : ∀ (p q : Nat) (f : Nat → Int32), q ≤ p → p ≤ q + 1 → p + q = a + b → a ≤ p → q ≤ b → (∀ i, i < n → f i = nI (if (a ≤ i ∧ i < p) ∨ (q < i ∧ i ≤ b) then r (a + b - i) else r i)) → K104 (ms_order M f) := by
      intro p q f c hpq hs hp hq hff
      refine h f (fun i hi => ?_)
      rw [hff i hi]
      unfold rvF
      by_cases e : a ≤ i ∧ i ≤ b
      · rw [if_pos e]
        by_cases e2 : (a ≤ i ∧ i < p) ∨ (q < i ∧ i ≤ b)
        · rw [if_pos e2]
        · rw [if_neg e2, show a + b - i = i by omega]
      · rw [if_neg e, if_neg (by omega)]
    intro m
    induction m with
    | zero =>
      intro p q f hm hpq hs hp hq hff
      exact yes (nI_le (by omega) (by omega)) (fin p q f (by omega) hpq hs hp hq hff)
    | succ m ih =>
      intro p q f hm hpq hs hp hq hff
      refine bh (fun c => fin p q f ((nI_leI (by omega) (by omega)).mp c) hpq hs hp hq hff) (fun c => ?_)
      have c : ¬ q ≤ p := fun z => c ((nI_leI (by omega) (by omega)).mpr z)
      refine swap_ok (r := fun i => if (a ≤ i ∧ i < p) ∨ (q < i ∧ i ≤ b) then r (a + b - i) else r i) hn hff (by omega) (by omega) (by omega) (fun f' hf' => ?_)
      obtain ⟨q', rfl⟩ : ∃ q', q = q' + 1 := ⟨q - 1, by omega⟩
      rw [nI_1, nI_dec]
      refine ih (p + 1) q' f' (by omega) (by omega) (by omega) (by omega) (by omega) (fun i hi => ?_)
      rw [hf' i hi]
      congr 1
      by_cases e2 : i = p
      · subst e2
        rw [swp_i, if_neg (by omega), if_pos (by omega), show a + b - i = q' + 1 by omega]
      · by_cases e1 : i = q' + 1
        · subst e1
          rw [swp_j (by omega), if_neg (by omega), if_pos (by omega), show a + b - (q' + 1) = p by omega]
        · rw [swp_o e2 e1]
          by_cases e3 : (a ≤ i ∧ i < p) ∨ (q' + 1 < i ∧ i ≤ b)
          · rw [if_pos e3, if_pos (by omega)]
          · rw [if_neg e3, if_neg (by omega)]
  exact ⟨_, go (a + b) a b f (by omega) (by omega) rfl (Nat.le_refl _) (Nat.le_refl _) (fun i hi => by rw [hf i hi, if_neg (by omega)])⟩
theorem nextOrder_ok {M : ST} {n : Nat} {r : Nat → Nat} {f : Nat → Int32} {post : Int32 → ST → Prop} (hn : n ≤ 12) (h3 : 3 ≤ n) (hf : ∀ k, k < n → f k = nI (r k)) (hr : ∀ k, k < n → r k < 2 ^ 31) (hinj : ∀ i j, i < n → j < n → r i = r j → i = j) (h0 : (∀ k, 0 < k → k + 1 < n → r (k + 1) < r k) → post 0 (ms_order M f)) (h1 : ∀ i j f', NI n r i j → (∀ k, k < n → f' k = nI (nxo n r i j k)) → post 1 (ms_order M f')) : wp_m_nextOrder (ms_order M f) (nI n) post := by
  have v : ∀ k, k < 12 → vp_in (nI k) 12 := fun k hk => vp_in_nI hk (by decide)
  -- the second place, then the rest
  have sec : ∀ (i : Nat), 1 ≤ i → i + 1 < n → r i < r (i + 1) → (∀ k, i < k → k + 1 < n → r (k + 1) < r k) → ∀ (m j : Nat), j ≤ i + 1 + m → i < j → j < n → (∀ k, j < k → k < n → r k < r i) → wp_m_nextOrder_43 (fun M6 v7 v8 v9 => wp_m_swap M6 v8 v9 (fun M10 => ∀ v12 : Int32, v12 = v8 + 1 → ∀ v13 : Int32, v13 = v7 - 1 → ∃ n, wp_m_nextOrder_80 (fun M16 => post 1 M16) post n M10 v12 v13)) post (m + 1) (ms_order M f) (nI n) (nI i) (nI j) := by
    intro i i1 i2 i3 i4
    have found : ∀ j, i < j → j < n → (∀ k, j < k → k < n → r k < r i) → r i < r j → wp_m_swap (ms_order M f) (nI i) (nI j) (fun M10 => ∀ v12 : Int32, v12 = nI i + 1 → ∀ v13 : Int32, v13 = nI n - 1 → ∃ n, wp_m_nextOrder_80 (fun M16 => post 1 M16) post n M10 v12 v13) := by
      intro j j1 j2 j3 j4
      refine swap_ok hn hf (by omega) j2 (by omega) (fun f' hf' => nm (nm ?_))
      rw [nI_1, n1 (by omega)]
      exact mrev80 hn hf' (by omega) (by omega) (by omega) (fun f'' hf'' => h1 i j f'' ⟨i1, i2, i3, i4, j1, j2, j4, j3⟩ hf'')
    intro m
    induction m with
    | zero =>
      intro j hj j1 j2 j3
      have ej : j = i + 1 := by omega
      subst ej
      have a := hr i (by omega)
      have b := hr (i + 1) i2
      refine ⟨v _ (by omega), v _ (by omega), ?_⟩
      rw [mordg, nI_clamp (show i < 2 ^ 31 by omega), nI_clamp (show i + 1 < 2 ^ 31 by omega), hf i (by omega), hf (i + 1) i2]
      exact yes (nI_le (by omega) (by omega)) (found (i + 1) j1 j2 j3 i3)
    | succ m ih =>
      intro j hj j1 j2 j3
      have a := hr i (by omega)
      have b := hr j j2
      refine ⟨v _ (by omega), v _ (by omega), ?_⟩
      rw [mordg, nI_clamp (show i < 2 ^ 31 by omega), nI_clamp (show j < 2 ^ 31 by omega), hf i (by omega), hf j j2]
      refine bh (fun c => found j j1 j2 j3 ?_) (fun c => ?_)
      · have c := (nI_leI a b).mp c
        have : r i ≠ r j := fun z => by have := hinj i j (by omega) j2 z; omega
        omega
      · have c : ¬ r i ≤ r j := fun z => c (nI_le z b)
        obtain ⟨j', rfl⟩ : ∃ j', j = j' + 1 := ⟨j - 1, by omega⟩
        rw [nI_dec]
        have ne : j' ≠ i := fun z => by subst z; omega
        refine ih j' (by omega) (by omega) (by omega) (fun k k1 k2 => ?_)
        by_cases y : k = j' + 1
        · subst y; omega
        · exact j3 k (by omega) k2
  have go : ∀ (m i : Nat), i ≤ m → i + 1 < n → (∀ k, i < k → k + 1 < n → r (k + 1) < r k) → wp_m_nextOrder_4 (fun M2 v3 v4 => wp_m_nextOrder_32 post M2 v3 v4) post (m + 1) (ms_order M f) (nI n) (nI i) := by
    have zero : ∀ i, i < 1 → (∀ k, i < k → k + 1 < n → r (k + 1) < r k) → wp_m_nextOrder_32 post (ms_order M f) (nI n) (nI i) := by
      intro i hi hd
      exact nay (nI_ge (b := 1) hi (by decide)) (h0 (fun k a b => hd k (by omega) b))
    intro m
    induction m with
    | zero =>
      intro i hi i2 hd
      exact yes (nI_lt (b := 1) (by omega) (by decide)) (zero i (by omega) hd)
    | succ m ih =>
      intro i hi i2 hd
      refine bh (fun c => zero i ((nI_ltI (b := 1) (by omega) (by decide)).mp c) hd) (fun c => ?_)
      have c : ¬ i < 1 := fun z => c (nI_lt (b := 1) z (by decide))
      have a := hr i (by omega)
      have b := hr (i + 1) i2
      refine ⟨v _ (by omega), ?_⟩
      rw [nI_1]
      refine ⟨v _ (by omega), ?_⟩
      rw [mordg, nI_clamp (show i < 2 ^ 31 by omega), nI_clamp (show i + 1 < 2 ^ 31 by omega), hf i (by omega), hf (i + 1) i2]
      refine bh (fun c2 => yes (nI_le (a := 1) (by omega) (by omega)) (nm ?_)) (fun c2 => ?_)
      · have c2 := (nI_leI a b).mp c2
        have ne : r i ≠ r (i + 1) := fun z => by have := hinj i (i + 1) (by omega) i2 z; omega
        rw [n1 (by omega)]
        exact ⟨_, sec i (by omega) i2 (by omega) hd n (n - 1) (by omega) (by omega) (by omega) (fun k k1 k2 => absurd k1 (by omega))⟩
      · have c2 : ¬ r i ≤ r (i + 1) := fun z => c2 (nI_le z b)
        obtain ⟨i', rfl⟩ : ∃ i', i = i' + 1 := ⟨i - 1, by omega⟩
        rw [nI_dec]
        refine ih i' (by omega) (by omega) (fun k k1 k2 => ?_)
        by_cases y : k = i' + 1
        · subst y; omega
        · exact hd k (by omega) k2
  refine nm ?_
  rw [n2 (by omega)]
  exact ⟨_, go n (n - 2) (by omega) (by omega) (fun k k1 k2 => absurd k1 (by omega))⟩
