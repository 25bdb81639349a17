/-! PURE: a ROUND is finished; it is made longer by a LAMP -/
theorem shunned_ok {M : ST} {d : Nat → Nat → Nat} {K n : Nat} {e p : Nat → Nat} {mu ba : Nat → Nat → Bool} {SH : (Nat → Nat) → Prop} {X : ST} {post : Int32 → ST → Prop} (h : SE M d K n e mu ba SH X) (hK : K ≤ 12) (hn : n ≤ 8) (hp : ∀ i, i < n → p i < K) (ho : ∀ i, i < n → x_Search_order X i = nI (p i)) (hs : ¬ x_Search_shuns X = 0) (h1 : SH p → post 1 X) (h0 : ¬ SH p → post 0 X) : wp_Search_isShunned X post := by
  rcases h.2.2.2.2.2 with ⟨z, _⟩ | ⟨_, z, z1, z2⟩
  · exact absurd z hs
  have go : ∀ (m i : Nat), i + m = n → (∀ j, j < i → p j = z j) → wp_Search_isShunned_2 (fun X1 => post 0 X1) (fun X2 => post 1 X2) post (m + 1) X (nI i) := by
    intro m
    induction m with
    | zero =>
      intro i hi hj
      exact yes (by rw [h.1]; exact nI_le (by omega) (by omega)) (h1 ((z2 p).mpr (fun j hj' => hj j (by omega))))
    | succ m ih =>
      intro i hi hj
      have a := hp i (by omega)
      have b := z1 i (by omega)
      refine nay (by rw [h.1]; exact nI_ge (by omega) (by omega)) ⟨vp_in_nI (by omega) (by decide), vp_in_nI (by omega) (by decide), ?_⟩
      rw [nI_clamp (show i < 2 ^ 31 by omega), ho i (by omega), b.1, nI_1]
      refine bh (fun c => ih (i + 1) (by omega) (fun j hj' => ?_)) (fun c => h0 (fun q => c ?_))
      · by_cases q : j = i
        · subst q; exact (nI_eq (by omega) (by omega)).mp c
        · exact hj j (by omega)
      · rw [(z2 p).mp q i (by omega)]
  exact ⟨_, go n 0 (by omega) (fun j hj => absurd hj (by omega))⟩
/-- where the class stands: k LAMPS are placed, the ROUNDS up to V are seen -/
def XP (M : ST) (d : Nat → Nat → Nat) (K n : Nat) (e : Nat → Nat) (mu ba : Nat → Nat → Bool) (SH : (Nat → Nat) → Prop) (X0 : ST) (k : Nat) (p : Nat → Nat) (kk V : Nat) (X : ST) : Prop := FS X0 X ∧ (∀ i, i < k → x_Search_order X i = nI (p i)) ∧ ∃ B, B < 2 ^ 31 ∧ x_Search_bestLength X = nI B ∧ BS (GX n mu ba SH) (cst M d n) n (VS M K n e kk V) 2147483647 B (x_Search_best X)
theorem n1 {n : Nat} (h : 1 ≤ n) : nI n - 1 = nI (n - 1) := nI_m h
theorem n2 {n : Nat} (h : 2 ≤ n) : nI n - 2 = nI (n - 2) := by
  obtain ⟨q, rfl⟩ : ∃ q, n = q + 2 := ⟨n - 2, by omega⟩
  rw [← nI_add q 2]
  exact Int32.add_sub_cancel _ _
theorem pvp_p {n i : Nat} (h : 0 < i) : pvp n i = i - 1 := if_pos h
theorem finish_ok {M : ST} {d : Nat → Nat → Nat} {K n : Nat} {e p : Nat → Nat} {mu ba : Nat → Nat → Bool} {SH : (Nat → Nat) → Prop} {X0 X : ST} {post : ST → Prop} (hm : ML d K M) (h3 : 3 ≤ n) (hn : n ≤ 8) (se : SE M d K n e mu ba SH X0) (hx : XP M d K n e mu ba SH X0 n p n (vl p n) X) (rs : RS M K n e p) (ok1 : ∀ i, 1 ≤ i → i + 1 < n → ∀ j, j < 32 → mu (p i) j = true → j = p (i - 1) ∨ j = p (i + 1)) (ok2 : ∀ i, i + 1 < n → ba (p i) (p (i + 1)) = false) (hp : ∀ X', XP M d K n e mu ba SH X0 n p n (vl p n + 1) X' → post X') : wp_Search_finish X (nI (ps M d p (n - 1))) post := by
  have hK := hm.1
  obtain ⟨fs, ho, B, hB, eB, bs⟩ := hx
  have s := se.fs fs
  have pk := rs.k
  have pd := rs.d hK
  have k0 := pk 0 (by omega)
  have k1 := pk 1 (by omega)
  have kl := pk (n - 1) (by omega)
  have kl2 := pk (n - 2) (by omega)
  have cp : cst M d n p = ps M d p (n - 1) + cv (wL M d (p (n - 1)) (p 0)) := by
    obtain ⟨q, rfl⟩ : ∃ q, n = q + 1 := ⟨n - 1, by omega⟩
    exact cst_ps
  have cl := cst_le hm rs
  have agree : ∀ s, VS M K n e n (vl p n + 1) s → ¬ VS M K n e n (vl p n) s → ∀ i, i < n → s i = p i := by
    intro s h1 h2
    refine vl_inj n (h1.1.d hK) pd ?_
    have : ¬ vl s n < vl p n := fun q => h2 ⟨h1.1, q⟩
    have := h1.2
    omega
  have rej : (GX n mu ba SH p → B ≤ cst M d n p) → post X := by
    intro hr
    refine hp X ⟨fs, ho, B, hB, eB, bs.ext (fun s q => ⟨q.1, by have := q.2; omega⟩) (fun s q1 q2 g => ?_)⟩
    have ag := agree s q1 q2
    have ec : cst M d n s = cst M d n p := lsum_congr ag
    have ev : vl s n = vl p n := vl_congr n ag
    have := hr (se.gx h3 ag g)
    exact ⟨by omega, by omega, fun r hr => by have := hr.2; omega⟩
  have acc : GX n mu ba SH p → cst M d n p < B → ∀ Y, Y = X → wp_Search_finish_116 post Y (nI (cst M d n p)) := by
    intro g lt Y hY
    subst hY
    refine nm ⟨by decide, by decide, ?_⟩
    have es : x_Search_size (xs_Search_bestLength Y (nI (cst M d n p))) = nI n := s.1
    rw [es, nI_clamp (show n < 2 ^ 31 by omega)]
    refine ⟨nI_pos (by omega), by show 0 + n ≤ 8; omega, by show 0 + n ≤ 8; omega, nm (hp _ ⟨?_, ?_, cst M d n p, by omega, rfl, ?_⟩)⟩
    · exact (fs.sI (by decide) _).sA (by decide) _
    · exact fun i hi => ho i hi
    · refine bs.new (p := p) ⟨rs, by omega⟩ g lt (fun i hi => ?_) (fun s q => ?_)
      · show va_cpy (x_Search_order Y) (x_Search_best Y) 0 0 n i = _
        unfold va_cpy
        rw [if_pos ⟨by omega, by omega⟩, show 0 + (i - 0) = i by omega]
        exact ho i hi
      · by_cases z : VS M K n e n (vl p n) s
        · exact Or.inl z
        · have ag := agree s q z
          exact Or.inr ⟨lsum_congr ag, vl_congr n ag⟩
  have v : ∀ k, k < 12 → vp_in (nI k) 12 := fun k hk => vp_in_nI hk (by decide)
  have v8 : ∀ k, k < 8 → vp_in (nI k) 8 := fun k hk => vp_in_nI hk (by decide)
  have z0 : x_Search_order X (0 : Int32).toNatClampNeg = nI (p 0) := ho 0 (by omega)
  have z1 : x_Search_order X (1 : Int32).toNatClampNeg = nI (p 1) := ho 1 (by omega)
  unfold wp_Search_finish
  rw [s.1, n1 (by omega), nI_clamp (show n - 1 < 2 ^ 31 by omega), z0, z1, ho (n - 1) (by omega)]
  refine ⟨v8 0 (by omega), nm ⟨v8 _ (by omega), nm ⟨v _ (by omega), v _ (by omega), ?_⟩⟩⟩
  rw [nI_clamp (show p 0 < 2 ^ 31 by omega), nI_clamp (show p (n - 1) < 2 ^ 31 by omega), s.2.2.1 _ _ kl k0, nI_add, ← cp, eB]
  refine nm (bh (fun c => rej (fun _ => (nI_leI (by omega) (by omega)).mp c)) (fun c => ⟨v8 1 (by omega), bh (fun c1 => rej (fun g => ?_)) (fun c1 => ⟨v _ (by omega), isIn_ok (by omega) (fun b => ya1 (rej (fun g => ?_))) (fun b => no1 ?_)⟩)⟩))
  · have := (nI_ltI (by omega) (by omega)).mp c1
    have := g.1
    omega
  · rw [s.2.2.2.2.1 _ kl _ (by omega)] at b
    have := g.2.2.1 (n - 1) (by omega)
    rw [show nxp n (n - 1) = 0 from if_neg (by omega), b] at this
    exact absurd this (by decide)
  rw [s.1, n2 (by omega), nI_clamp (show n - 2 < 2 ^ 31 by omega), ho (n - 2) (by omega)]
  refine ⟨v8 _ (by omega), content_ok s hK kl kl2 k0 (fun q1 => ya2 ⟨v8 1 (by omega), ?_⟩) (fun q1 => no2 (rej (fun g => ?_)))⟩
  rw [z1]
  refine content_ok s hK k0 kl k1 (fun q2 => ya2 ?_) (fun q2 => no2 (rej (fun g => ?_)))
  · rw [s.2.2.2.2.1 _ kl _ (by omega)] at b
    have c : ¬ B ≤ cst M d n p := fun z => c (nI_le z (by omega))
    have c1 : ¬ p (n - 1) < p 1 := fun z => c1 (nI_lt z (by omega))
    have ne : p 1 ≠ p (n - 1) := fun z => by
      have := rs.1.2.2 1 (n - 1) (by omega) (by omega) z
      omega
    have gg : ¬ SH p → GX n mu ba SH p := by
      intro hsh
      refine ⟨by omega, fun i hi j hj mj => ?_, fun i hi => ?_, hsh⟩
      · by_cases i0 : i = 0
        · subst i0
          rw [show pvp n 0 = n - 1 from if_neg (by omega), nxp_y (by omega)]
          exact q2 j hj mj
        · by_cases il : i = n - 1
          · subst il
            rw [pvp_p (by omega), show nxp n (n - 1) = 0 from if_neg (by omega), show n - 1 - 1 = n - 2 by omega]
            exact q1 j hj mj
          · rw [pvp_p (by omega), nxp_y (by omega)]
            exact ok1 i (by omega) (by omega) j hj mj
      · by_cases il : i = n - 1
        · subst il
          rw [show nxp n (n - 1) = 0 from if_neg (by omega)]
          exact b
        · rw [nxp_y (by omega)]
          exact ok2 i (by omega)
    refine bh (fun c2 => acc (gg ?_) (by omega) X rfl) (fun c2 => shunned_ok s hK hn pk ho c2 (fun q => ya2 (rej (fun g => absurd q g.2.2.2))) (fun q => no2 (acc (gg q) (by omega) X rfl)))
    rcases s.2.2.2.2.2 with ⟨_, z⟩ | ⟨z, _⟩
    · exact z p
    · exact absurd c2 z
  · refine absurd (fun j hj mj => ?_) q2
    have := g.2.1 0 (by omega) j hj mj
    rw [show pvp n 0 = n - 1 from if_neg (by omega), nxp_y (by omega)] at this
    exact this
  · refine absurd (fun j hj mj => ?_) q1
    have := g.2.1 (n - 1) (by omega) j hj mj
    rw [pvp_p (by omega), show nxp n (n - 1) = 0 from if_neg (by omega), show n - 1 - 1 = n - 2 by omega] at this
    exact this
/-! sets of ROUNDS on the way -/
def Tn (n : Nat) (e : Nat → Nat) (i : Nat) : Nat := if i < n then e i else 16
theorem vs_new {M : ST} {d : Nat → Nat → Nat} {K n k i : Nat} {e p s : Nat → Nat} (ev : Ev M d K n e) (hk : k < n) (hi : i < n) (hp : ∀ j, j < k → p j < 16) (h1 : VS M K n e (k + 1) (16 * vl p k + Tn n e (i + 1)) s) (h2 : ¬ VS M K n e (k + 1) (16 * vl p k + e i) s) : (∀ j, j < k → s j = p j) ∧ s k = e i := by
  have hK := ev.1.1
  have sd := h1.1.d hK
  have a := h1.2
  have b : ¬ vl s (k + 1) < 16 * vl p k + e i := fun q => h2 ⟨h1.1, q⟩
  rw [vl_s] at a b
  have c := sd k hk
  have f := h1.1.1.2.1 k hk
  obtain ⟨t, ht, et⟩ := ev.2.2.2.2.1 _ f.1 f.2
  have ei := (ev.2.2.1 i hi).1
  have tl : Tn n e (i + 1) ≤ 16 := by
    unfold Tn
    split
    · next q => have := (ev.2.2.1 (i + 1) q).1; omega
    · omega
  have vv : vl s k = vl p k := by omega
  refine ⟨vl_inj k (fun j hj => sd j (by omega)) hp vv, ?_⟩
  have t1 : ¬ t < i := fun q => by have := ev.2.2.2.1 t i q hi; omega
  have t2 : ¬ i < t := fun q => by
    unfold Tn at a
    rw [if_pos (by omega)] at a
    by_cases z : t = i + 1
    · subst z; omega
    · have := ev.2.2.2.1 (i + 1) t (by omega) ht; omega
  have : t = i := by omega
  subst this
  exact et.symm
theorem vs_next {M : ST} {d : Nat → Nat → Nat} {K n k i : Nat} {e p : Nat → Nat} (ev : Ev M d K n e) (hk : k < n) (hi : i < n) (hp : ∀ j, j < k → p j < 16) (s : Nat → Nat) : VS M K n e (k + 1) (16 * vl p k + e i + 1) s ↔ VS M K n e (k + 1) (16 * vl p k + Tn n e (i + 1)) s := by
  have ei := (ev.2.2.1 i hi).1
  have hK := ev.1.1
  have tl : e i + 1 ≤ Tn n e (i + 1) := by
    unfold Tn
    split
    · next q => have := ev.2.2.2.1 i (i + 1) (by omega) q; omega
    · omega
  constructor
  · exact fun h => ⟨h.1, by have := h.2; omega⟩
  · intro h
    refine ⟨h.1, ?_⟩
    by_cases q : VS M K n e (k + 1) (16 * vl p k + e i) s
    · have := q.2; omega
    · have z := vs_new ev hk hi hp h q
      rw [vl_s, vl_congr k z.1, z.2]
      omega
theorem vs_first {M : ST} {d : Nat → Nat → Nat} {K n k : Nat} {e p : Nat → Nat} (ev : Ev M d K n e) (h1 : 1 ≤ k) (hk : k < n) (hp : ∀ j, j < k → p j < 16) (s : Nat → Nat) : VS M K n e k (vl p k) s ↔ VS M K n e (k + 1) (16 * vl p k + Tn n e 1) s := by
  have hK := ev.1.1
  have e1 : Tn n e 1 = e 1 := if_pos (by omega)
  have e1k := (ev.2.2.1 1 (by omega)).1
  rw [e1]
  constructor
  · intro h
    have := h.1.d hK k hk
    refine ⟨h.1, ?_⟩
    have := h.2
    rw [vl_s]
    omega
  · intro h
    refine ⟨h.1, ?_⟩
    have a := h.2
    rw [vl_s] at a
    rcases Nat.lt_or_ge (vl s k) (vl p k) with q | q
    · exact q
    · have f := h.1.1.2.1 k hk
      obtain ⟨t, ht, et⟩ := ev.2.2.2.2.1 _ f.1 f.2
      have t0 : t = 0 := by
        rcases Nat.lt_or_ge 1 t with z | z
        · have := ev.2.2.2.1 1 t z ht; omega
        · by_cases y : t = 1
          · subst y; omega
          · omega
      subst t0
      have := h.1.1.2.2 0 k (by omega) hk (h.1.2.trans et)
      omega
theorem vs_last {M : ST} {K n k : Nat} {e p : Nat → Nat} (hK : K ≤ 12) (hk : k < n) (s : Nat → Nat) : VS M K n e (k + 1) (16 * vl p k + 16) s ↔ VS M K n e k (vl p k + 1) s := by
  constructor
  · intro h
    have a := h.2
    rw [vl_s] at a
    exact ⟨h.1, by omega⟩
  · intro h
    have := h.1.d hK k hk
    have a := h.2
    refine ⟨h.1, ?_⟩
    rw [vl_s]
    omega
theorem tri_end {M : ST} {d : Nat → Nat → Nat} {K n : Nat} {s : Nat → Nat} (hm : ML d K M) (hs : ∀ i, i < n + 1 → s i < K) (hf : ∀ a b, a < n + 1 → b < n + 1 → wL M d (s a) (s b) ≠ FARN) : ∀ (m k : Nat), k + m = n → ps M d s k + cv (wL M d (s k) (s 0)) ≤ cst M d (n + 1) s := by
  intro m
  induction m with
  | zero =>
    intro k hk
    have : k = n := by omega
    subst this
    rw [cst_ps]
    exact Nat.le_refl _
  | succ m ih =>
    intro k hk
    have a := ih (k + 1) (by omega)
    have t := hm.wtri (hs k (by omega)) (hs (k + 1) (by omega)) (hs 0 (by omega))
    have e : ps M d s (k + 1) = ps M d s k + cv (wL M d (s k) (s (k + 1))) := rfl
    rw [cv_n (hf k 0 (by omega) (by omega))]
    rw [e, cv_n (hf k (k + 1) (by omega) (by omega)), cv_n (hf (k + 1) 0 (by omega) (by omega))] at a
    omega
