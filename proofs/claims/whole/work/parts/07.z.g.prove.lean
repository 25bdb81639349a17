/-! PURE: which LINE is written; the class -/
def FPk (M : ST) (K : Nat) (cs : Nat → Nat) (k : Nat) : Prop := k < 144 ∧ lpM M K k ∧ cs k = 0
def N6 (M : ST) (d : Nat → Nat → Nat) (K : Nat) (cs : Nat → Nat) : Prop := ∀ x y, ¬ S6 M d K cs x y
def A6 (M : ST) (d : Nat → Nat → Nat) (K : Nat) (cs : Nat → Nat) (x y : Nat) : Prop := S6 M d K cs x y ∧ ∀ x' y', S6 M d K cs x' y' → 12 * x + y ≤ 12 * x' + y'
def NA (M : ST) (K : Nat) (cs : Nat → Nat) (op : Nat) : Prop := ∀ x, ¬ SA M K cs op x
def AA (M : ST) (K : Nat) (cs : Nat → Nat) (op x : Nat) : Prop := SA M K cs op x ∧ ∀ x', x' < x → ¬ SA M K cs op x'
def AF (M : ST) (d : Nat → Nat → Nat) (K : Nat) (cs : Nat → Nat) (k : Nat) : Prop := FPk M K cs k ∧ ∀ q, FPk M K cs q → q = k ∨ key M d k < key M d q
theorem AA_u {M : ST} {K op x y : Nat} {cs : Nat → Nat} (h : AA M K cs op x) (g : AA M K cs op y) : x = y := by
  rcases Nat.lt_trichotomy x y with z | z | z
  · exact absurd h.1 (g.2 x z)
  · exact z
  · exact absurd g.1 (h.2 y z)
theorem AA_na {M : ST} {K op x : Nat} {cs : Nat → Nat} (h : AA M K cs op x) (g : NA M K cs op) : False := g x h.1
theorem A6_u {M : ST} {d : Nat → Nat → Nat} {K x y x' y' : Nat} {cs : Nat → Nat} (hK : K ≤ 12) (h : A6 M d K cs x y) (g : A6 M d K cs x' y') : x = x' ∧ y = y' := by
  have a := h.2 x' y' g.1
  have b := g.2 x y h.1
  have := h.1.2.1.1
  have := g.1.2.1.1
  omega
theorem AF_u {M : ST} {d : Nat → Nat → Nat} {K k q : Nat} {cs : Nat → Nat} (h : AF M d K cs k) (g : AF M d K cs q) : k = q := by
  rcases h.2 q g.1 with y | y
  · exact y.symm
  · rcases g.2 k h.1 with z | z
    · exact z
    · omega
/-- the LINE that is written at a CASE -/
def WN (M : ST) (d : Nat → Nat → Nat) (K f : Nat) (nn : Int32) (cs : Nat → Nat) (ln : Nat × Nat × Nat) : Prop := (∃ x y, A6 M d K cs x y ∧ ln = (6, x, y)) ∨ (N6 M d K cs ∧ ((∃ x, AA M K cs 3 x ∧ ln = (3, x, 0)) ∨ (NA M K cs 3 ∧ ((∃ x, AA M K cs 4 x ∧ ln = (4, x, 0)) ∨ (NA M K cs 4 ∧ ((∃ x, AA M K cs 5 x ∧ ln = (5, x, 0)) ∨ (NA M K cs 5 ∧ ((S2 M d K f nn cs ∧ ln = (2, 0, 0)) ∨ (¬ S2 M d K f nn cs ∧ ∃ k, AF M d K cs k ∧ ln = (1, k / 12, k % 12))))))))))
def NWl (M : ST) (d : Nat → Nat → Nat) (K f : Nat) (nn : Int32) (cs : Nat → Nat) : Prop := N6 M d K cs ∧ NA M K cs 3 ∧ NA M K cs 4 ∧ NA M K cs 5 ∧ ¬ S2 M d K f nn cs ∧ ∀ k, ¬ FPk M K cs k
theorem WN_u {M : ST} {d : Nat → Nat → Nat} {K f : Nat} {nn : Int32} {cs : Nat → Nat} {l l' : Nat × Nat × Nat} (hK : K ≤ 12) (h : WN M d K f nn cs l) (g : WN M d K f nn cs l') : l = l' := by
  rcases h with ⟨x, y, h, rfl⟩ | ⟨n6, h⟩
  · rcases g with ⟨x', y', g, rfl⟩ | ⟨m6, g⟩
    · obtain ⟨rfl, rfl⟩ := A6_u hK h g; rfl
    · exact absurd h.1 (m6 x y)
  · rcases g with ⟨x', y', g, rfl⟩ | ⟨m6, g⟩
    · exact absurd g.1 (n6 x' y')
    · rcases h with ⟨x, h, rfl⟩ | ⟨n3, h⟩
      · rcases g with ⟨x', g, rfl⟩ | ⟨m3, g⟩
        · rw [AA_u h g]
        · exact (AA_na h m3).elim
      · rcases g with ⟨x', g, rfl⟩ | ⟨m3, g⟩
        · exact (AA_na g n3).elim
        · rcases h with ⟨x, h, rfl⟩ | ⟨n4, h⟩
          · rcases g with ⟨x', g, rfl⟩ | ⟨m4, g⟩
            · rw [AA_u h g]
            · exact (AA_na h m4).elim
          · rcases g with ⟨x', g, rfl⟩ | ⟨m4, g⟩
            · exact (AA_na g n4).elim
            · rcases h with ⟨x, h, rfl⟩ | ⟨n5, h⟩
              · rcases g with ⟨x', g, rfl⟩ | ⟨m5, g⟩
                · rw [AA_u h g]
                · exact (AA_na h m5).elim
              · rcases g with ⟨x', g, rfl⟩ | ⟨m5, g⟩
                · exact (AA_na g n5).elim
                · rcases h with ⟨s, rfl⟩ | ⟨s, k, h, rfl⟩
                  · rcases g with ⟨s', rfl⟩ | ⟨s', k', g, rfl⟩
                    · rfl
                    · exact absurd s s'
                  · rcases g with ⟨s', rfl⟩ | ⟨s', k', g, rfl⟩
                    · exact absurd s' s
                    · rw [AF_u h g]
theorem WN_nw {M : ST} {d : Nat → Nat → Nat} {K f : Nat} {nn : Int32} {cs : Nat → Nat} {l : Nat × Nat × Nat} (h : WN M d K f nn cs l) (g : NWl M d K f nn cs) : False := by
  obtain ⟨g1, g2, g3, g4, g5, g6⟩ := g
  rcases h with ⟨x, y, h, _⟩ | ⟨n6, ⟨x, h, _⟩ | ⟨n3, ⟨x, h, _⟩ | ⟨n4, ⟨x, h, _⟩ | ⟨n5, ⟨s, _⟩ | ⟨s, k, h, _⟩⟩⟩⟩⟩
  · exact g1 x y h.1
  · exact AA_na h g2
  · exact AA_na h g3
  · exact AA_na h g4
  · exact g5 s
  · exact g6 k h.1
theorem WN_sd {M : ST} {d : Nat → Nat → Nat} {K f : Nat} {nn : Int32} {cs : Nat → Nat} {l : Nat × Nat × Nat} (hK : K ≤ 12) (h : WN M d K f nn cs l) : Sd M d K f nn cs l.1 (nI l.2.1) (nI l.2.2) ∧ (1 ≤ l.1 ∧ l.1 ≤ 6) ∧ l.2.1 < 12 ∧ l.2.2 < 12 := by
  rcases h with ⟨x, y, h, rfl⟩ | ⟨n6, ⟨x, h, rfl⟩ | ⟨n3, ⟨x, h, rfl⟩ | ⟨n4, ⟨x, h, rfl⟩ | ⟨n5, ⟨s, rfl⟩ | ⟨s, k, h, rfl⟩⟩⟩⟩⟩
  · have a := h.1.1.1
    have b := h.1.2.1.1
    exact ⟨Or.inr (Or.inr (Or.inr ⟨rfl, x, y, rfl, rfl, h.1⟩)), ⟨by show 1 ≤ 6; omega, by show 6 ≤ 6; omega⟩, by show x < 12; omega, by show y < 12; omega⟩
  · have a := h.1.1
    exact ⟨Or.inr (Or.inr (Or.inl ⟨Or.inl rfl, x, rfl, h.1⟩)), ⟨by show 1 ≤ 3; omega, by show 3 ≤ 6; omega⟩, by show x < 12; omega, by show 0 < 12; omega⟩
  · have a := h.1.1
    exact ⟨Or.inr (Or.inr (Or.inl ⟨Or.inr (Or.inl rfl), x, rfl, h.1⟩)), ⟨by show 1 ≤ 4; omega, by show 4 ≤ 6; omega⟩, by show x < 12; omega, by show 0 < 12; omega⟩
  · have a := h.1.1
    exact ⟨Or.inr (Or.inr (Or.inl ⟨Or.inr (Or.inr rfl), x, rfl, h.1⟩)), ⟨by show 1 ≤ 5; omega, by show 5 ≤ 6; omega⟩, by show x < 12; omega, by show 0 < 12; omega⟩
  · exact ⟨Or.inr (Or.inl ⟨rfl, s⟩), ⟨by show 1 ≤ 2; omega, by show 2 ≤ 6; omega⟩, by decide, by decide⟩
  · obtain ⟨⟨k4, ⟨l1, l2, l3, l4⟩, c⟩, _⟩ := h
    refine ⟨Or.inl ⟨rfl, k / 12, k % 12, rfl, rfl, l1, l2, l3, l4, ?_⟩, ⟨by show 1 ≤ 1; omega, by show 1 ≤ 6; omega⟩, by show k / 12 < 12; omega, by show k % 12 < 12; omega⟩
    rw [show 12 * (k / 12) + k % 12 = k by omega]
    exact c
def updL (L : Nat → Nat × Nat × Nat) (i : Nat) (ln : Nat × Nat × Nat) : Nat → Nat × Nat × Nat := fun j => if j = i then ln else L j
theorem updL_s {L : Nat → Nat × Nat × Nat} {i : Nat} {ln : Nat × Nat × Nat} : updL L i ln i = ln := if_pos rfl
theorem updL_n {L : Nat → Nat × Nat × Nat} {i j : Nat} {ln : Nat × Nat × Nat} (h : j ≠ i) : updL L i ln j = L j := if_neg h
/-- the LINES that are written so far, in the class -/
def DR (L : Nat → Nat × Nat × Nat) (i : Nat) (X : ST) : Prop := x_draft_count X = nI i ∧ ∀ j, j < i → x_draft_ops X j = nI (L j).1 ∧ x_draft_as X j = nI (L j).2.1 ∧ x_draft_bs X j = nI (L j).2.2
theorem DR.fg {L : Nat → Nat × Nat × Nat} {i : Nat} {X X' : ST} (h : DR L i X) (s : FG X X') : DR L i X' := by
  unfold DR at h ⊢
  rw [show x_draft_count X' = _ from s.1 14 (by decide), show x_draft_ops X' = _ from s.2.2.1 44 (by decide), show x_draft_as X' = _ from s.2.2.1 45 (by decide), show x_draft_bs X' = _ from s.2.2.1 46 (by decide)]
  exact h
theorem DR.fc {L : Nat → Nat × Nat × Nat} {i : Nat} {X X' : ST} (h : DR L i X) (s : FC X X') : DR L i X' := by
  unfold DR at h ⊢
  rw [show x_draft_count X' = _ from s.1 14 (by decide), show x_draft_ops X' = _ from s.2.2.1 44 (by decide), show x_draft_as X' = _ from s.2.2.1 45 (by decide), show x_draft_bs X' = _ from s.2.2.1 46 (by decide)]
  exact h
abbrev FD : ST → ST → Prop := Fe [14] [] [44, 45, 46] []
theorem FD.fj {X X' : ST} (s : FD X X') : FJ X X' := s.up (fun k hk => by simp only [List.mem_cons, List.not_mem_nil, or_false] at hk ⊢; omega) (fun k hk => absurd hk List.not_mem_nil) (fun k hk => by simp only [List.mem_cons, List.not_mem_nil, or_false] at hk ⊢; omega) (fun k hk => hk)
theorem FD.xa {M : ST} {K : Nat} {r : List (Nat × Bool)} {X X' : ST} (s : FD X X') (h : XA M K r X) : XA M K r X' := by
  unfold XA at h ⊢
  rw [show x_Case_depth X' = _ from s.1 8 (by decide), show x_Case_isOver X' = _ from s.1 9 (by decide), show x_Case_joined X' = _ from s.2.2.1 34 (by decide), show x_Case_parted X' = _ from s.2.2.1 35 (by decide)]
  refine ⟨h.1, PSt_congr (fun i hi => ?_) h.2.1, h.2.2⟩
  rw [show x_Case_split X' = _ from s.2.2.1 36 (by decide), show x_Case_isSecond X' = _ from s.2.2.1 37 (by decide)]
  exact ⟨rfl, rfl⟩
theorem append_ok {L : Nat → Nat × Nat × Nat} {i op x y : Nat} {X : ST} {post : ST → Prop} (dr : DR L i X) (hi : i < 400) (h : ∀ Z, FD X Z → DR (updL L i (op, x, y)) (i + 1) Z → post Z) : wp_draft_append X (nI op) (nI x) (nI y) post := by
  have v : vp_in (nI i) 400 := vp_in_nI hi (by decide)
  unfold wp_draft_append wp_draft_write
  rw [dr.1, nI_clamp (show i < 2 ^ 31 by omega)]
  refine nay (nI_ge (b := 400) hi (by decide)) ⟨v, nm ⟨v, nm ⟨v, nm (nm ?_)⟩⟩⟩
  refine h _ (((((Fe.rf X).sA (by decide) _).sA (by decide) _).sA (by decide) _).sI (by decide) _) ⟨?_, fun j hj => ?_⟩
  · show x_draft_count X + 1 = _
    rw [dr.1, nI_1]
  · show upd (x_draft_ops X) i (nI op) j = _ ∧ upd (x_draft_as X) i (nI x) j = _ ∧ upd (x_draft_bs X) i (nI y) j = _
    by_cases e : j = i
    · subst e
      rw [pk_us, pk_us, pk_us, updL_s]
      exact ⟨rfl, rfl, rfl⟩
    · rw [pk_un e, pk_un e, pk_un e, updL_n e]
      exact dr.2 j (by omega)
theorem twins2_ok {n K x y : Nat} {M : ST} {d : Nat → Nat → Nat} {r : List (Nat × Bool)} {X : ST} (xe : XE n M d K r X) (hx : x < K) (hy : y < 32) : bt (x_Lamps_needs X x &&& x_Case_parted X x) y = true ↔ S6 M d K (cso r) x y := by
  have hK := xe.1.1
  rw [b_and, Bool.and_eq_true, xe.2.2.2 x hx y hy, xe.2.2.1.2.2.2.2.1 x (by omega) y hy, decide_eq_true_iff]
  unfold mu0 S6
  rw [decide_eq_true_iff]
  constructor
  · rintro ⟨⟨a1, a2, a3, a4⟩, b1, b2, b3⟩
    exact ⟨⟨hx, a2⟩, ⟨a1, a3⟩, b2, a4, b3⟩
  · rintro ⟨⟨a1, a2⟩, ⟨b1, b2⟩, c1, c2, c3⟩
    exact ⟨⟨b1, a2, b2, c2⟩, by omega, c1, c3⟩
theorem wTwins_ok {n K : Nat} {M : ST} {d : Nat → Nat → Nat} {r : List (Nat × Bool)} {X : ST} {K47 : ST → Int32 → Int32 → Prop} {K70 : ST → Prop} {post : Int32 → ST → Prop} (xe : XE n M d K r X) (h1 : ∀ x y, A6 M d K (cso r) x y → K47 X (nI x) (nI y)) (h0 : N6 M d K (cso r) → K70 X) : ∃ k, wp_Judge_writeTwins_draft_2 K47 K70 post k X 0 := by
  have hk := xe.1
  have hK := hk.1
  have lt : ∀ {x y}, S6 M d K (cso r) x y → x < K ∧ y < K := fun s => ⟨s.1.1, s.2.1.1⟩
  have go : ∀ (m a : Nat), a + m = K → (∀ x y, S6 M d K (cso r) x y → a ≤ x) → wp_Judge_writeTwins_draft_2 K47 K70 post (m + 1) X (nI a) := by
    intro m
    induction m with
    | zero =>
      intro a ha hno
      refine yes (by rw [hk.2.1]; exact nI_le (by omega) (by omega)) (h0 (fun x y s => ?_))
      have := hno x y s
      have := (lt s).1
      omega
    | succ m ih =>
      intro a ha hno
      have tw : ∀ y, y < 32 → (bt (x_Lamps_needs X a &&& x_Case_parted X a) y = true ↔ S6 M d K (cso r) a y) := fun y hy => twins2_ok xe (by omega) hy
      have next : (∀ y, ¬ S6 M d K (cso r) a y) → wp_Judge_writeTwins_draft_2 K47 K70 post (m + 1) X (nI a + 1) := by
        intro q
        rw [nI_1]
        refine ih (a + 1) (by omega) (fun x y s => ?_)
        have := hno x y s
        by_cases e : x = a
        · subst e; exact absurd s (q y)
        · omega
      refine nay (by rw [hk.2.1]; exact nI_ge (by omega) (by omega)) ⟨vp_in_nI (by omega) (by decide), vp_in_nI (by omega) (by decide), ?_⟩
      rw [nI_clamp (show a < 2 ^ 31 by omega)]
      have inn : ∀ (q b : Nat), b + q = K → (∀ y, S6 M d K (cso r) a y → b ≤ y) → wp_Judge_writeTwins_draft_22 K47 (fun X5 v6 => wp_Judge_writeTwins_draft_2 K47 K70 post (m + 1) X5 (v6 + 1)) post (q + 1) X (nI a) (x_Lamps_needs X a &&& x_Case_parted X a) (nI b) := by
        intro q
        induction q with
        | zero =>
          intro b hb hn
          refine bh (fun e => next (fun y s => ?_)) (fun e => yes (by rw [hk.2.1]; exact nI_le (by omega) (by omega)) (next (fun y s => ?_)))
          · have := (lt s).2
            have t := (tw y (by omega)).mpr s
            rw [e, b_0] at t
            exact absurd t (by decide)
          · have := hn y s
            have := (lt s).2
            omega
        | succ q ihq =>
          intro b hb hn
          refine bh (fun e => next (fun y s => ?_)) (fun e => nay (by rw [hk.2.1]; exact nI_ge (by omega) (by omega)) (isIn_ok (by omega) (fun t => ya2 (h1 a b ⟨(tw b (by omega)).mp t, fun x' y' s => ?_⟩)) (fun t => no2 ?_)))
          · have := (lt s).2
            have t := (tw y (by omega)).mpr s
            rw [e, b_0] at t
            exact absurd t (by decide)
          · have := hno x' y' s
            have l := lt s
            by_cases w : x' = a
            · subst w
              have := hn y' s
              omega
            · omega
          · rw [nI_1]
            refine ihq (b + 1) (by omega) (fun y s => ?_)
            have := hn y s
            by_cases w : y = b
            · subst w
              rw [(tw y (by omega)).mpr s] at t
              exact absurd t (by decide)
            · omega
      exact ⟨_, inn K 0 (by omega) (fun y _ => Nat.zero_le _)⟩
  exact ⟨_, go K 0 (by omega) (fun x y _ => Nat.zero_le _)⟩
theorem wAlone_ok {n K op : Nat} {M : ST} {d : Nat → Nat → Nat} {r : List (Nat × Bool)} {X : ST} {K33 : ST → Int32 → Int32 → Prop} {K48 : ST → Prop} {post : Int32 → ST → Prop} (xe : XE n M d K r X) (hop : op = 3 ∨ op = 4 ∨ op = 5) (h1 : ∀ x, AA M K (cso r) op x → K33 X (nI op) (nI x)) (h0 : NA M K (cso r) op → K48 X) : ∃ k, wp_Judge_writeAlone_draft_2 K33 K48 post k X (nI op) 0 := by
  have hk := xe.1
  have hK := hk.1
  have go : ∀ (m a : Nat), a + m = K → (∀ x, x < a → ¬ SA M K (cso r) op x) → wp_Judge_writeAlone_draft_2 K33 K48 post (m + 1) X (nI op) (nI a) := by
    intro m
    induction m with
    | zero =>
      intro a ha hno
      exact yes (by rw [hk.2.1]; exact nI_le (by omega) (by omega)) (h0 (fun x s => hno x (by have := s.1; omega) s))
    | succ m ih =>
      intro a ha hno
      have next : ¬ SA M K (cso r) op a → wp_Judge_writeAlone_draft_2 K33 K48 post (m + 1) X (nI op) (nI a + 1) := by
        intro q
        rw [nI_1]
        refine ih (a + 1) (by omega) (fun x hx => ?_)
        by_cases e : x = a
        · subst e; exact q
        · exact hno x (by omega)
      refine nay (by rw [hk.2.1]; exact nI_ge (by omega) (by omega)) (isLiveN_ok hK hk.2.1 hk.2.2.2.2.2 (by omega) (fun o => ya2 (alone_ok xe hop (by omega) o (fun s => ya2 (h1 a ⟨s, hno⟩)) (fun s => no2 (next s)))) (fun o => no2 (next (fun s => o s.2.1))))
  exact ⟨_, go K 0 (by omega) (fun x hx => absurd hx (by omega))⟩
theorem firstFree_ok {n K : Nat} {M : ST} {d : Nat → Nat → Nat} {r : List (Nat × Bool)} {X : ST} {post : Int32 → ST → Prop} (hK : K ≤ 12) (xe : XE n M d K r X) (h1 : ∀ k, AF M d K (cso r) k → post (nI (kcode k)) X) (h0 : (∀ k, ¬ FPk M K (cso r) k) → post (-1) X) : wp_Tree_firstFreePair X post := by
  obtain ⟨_, ⟨m, p, rk⟩, xa, _⟩ := xe
  obtain ⟨r1, r2, r3, r4, r5⟩ := id rk
  have go : ∀ (q i : Nat), i + q = m → (∀ j, j < i → ¬ cso r (p j) = 0) → wp_Tree_firstFreePair_2 (fun X9 v10 => post v10 X9) (fun X11 => post (-1) X11) post (q + 1) X (nI i) := by
    intro q
    induction q with
    | zero =>
      intro i hi hj
      refine yes (by rw [r1]; exact nI_le (by omega) (by omega)) (h0 (fun k fk => ?_))
      obtain ⟨j, j1, j2⟩ := r5 k fk.1 fk.2.1
      subst j2
      exact hj j (by omega) fk.2.2
    | succ q ih =>
      intro i hi hj
      obtain ⟨k1, k2, k3⟩ := r3 i (by omega)
      have l1 := k3.1
      refine nay (by rw [r1]; exact nI_ge (by omega) (by omega)) (pairAt_ok (by omega) k2 k1 (lesser_ok k2 (greater_ok k2 (free_ok xa (by omega) (by omega) (by omega) (fun c => ya2 (h1 (p i) ⟨⟨k2, k3, ?_⟩, fun u fu => ?_⟩)) (fun c => no2 ?_)))))
      · rw [pai_k l1] at c; exact c
      · obtain ⟨j, j1, j2⟩ := r5 u fu.1 fu.2.1
        subst j2
        rcases Nat.lt_trichotomy i j with w | w | w
        · exact Or.inr (r4 i j w j1)
        · subst w; exact Or.inl rfl
        · exact absurd fu.2.2 (hj j w)
      · rw [nI_1]
        refine ih (i + 1) (by omega) (fun j hj' => ?_)
        by_cases w : j = i
        · subst w
          rw [pai_k l1] at c; exact c
        · exact hj j (by omega)
  exact ⟨_, go m 0 (by omega) (fun j hj => absurd hj (by omega))⟩
theorem writeNext_ok {n K f i : Nat} {M : ST} {d : Nat → Nat → Nat} {nn : Int32} {r : List (Nat × Bool)} {X : ST} {L : Nat → Nat × Nat × Nat} {post : Int32 → ST → Prop} (hn : n ≤ 511) (hm : ML d K M) (hf : isF M K f) (h3 : 3 ≤ cn (lv M) K) (xe : XE n M d K r X) (dr : DR L i X) (hi : i < 400) (h1 : ∀ ln X', WN M d K f nn (cso r) ln → FJ X X' → XA M K r X' → DR (updL L i ln) (i + 1) X' → post 1 X') (h0 : NWl M d K f nn (cso r) → ∀ X', FJ X X' → post 0 X') : wp_Judge_writeNext_draft X nn post := by
  have hK := hm.1
  have xa := xe.2.2.1
  have put : ∀ op x y, WN M d K f nn (cso r) (op, x, y) → wp_draft_append X (nI op) (nI x) (nI y) (fun Z => post 1 Z) := fun op x y w => append_ok dr hi (fun Z fd d2 => h1 _ Z w fd.fj (fd.xa xa) d2)
  refine wTwins_ok xe (fun x y a => append_ok dr hi (fun Z fd d2 => ya1 (h1 _ Z (Or.inl ⟨x, y, a, rfl⟩) fd.fj (fd.xa xa) d2))) (fun n6 => no1 ?_)
  refine wAlone_ok (op := 3) xe (Or.inl rfl) (fun x a => append_ok (y := 0) dr hi (fun Z fd d2 => ya1 (h1 _ Z (Or.inr ⟨n6, Or.inl ⟨x, a, rfl⟩⟩) fd.fj (fd.xa xa) d2))) (fun n3 => no1 ?_)
  refine wAlone_ok (op := 4) xe (Or.inr (Or.inl rfl)) (fun x a => append_ok (y := 0) dr hi (fun Z fd d2 => ya1 (h1 _ Z (Or.inr ⟨n6, Or.inr ⟨n3, Or.inl ⟨x, a, rfl⟩⟩⟩) fd.fj (fd.xa xa) d2))) (fun n4 => no1 ?_)
  refine wAlone_ok (op := 5) xe (Or.inr (Or.inr rfl)) (fun x a => append_ok (y := 0) dr hi (fun Z fd d2 => ya2 (h1 _ Z (Or.inr ⟨n6, Or.inr ⟨n3, Or.inr ⟨n4, Or.inl ⟨x, a, rfl⟩⟩⟩⟩) fd.fj (fd.xa xa) d2))) (fun n5 => no2 ?_)
  refine prices_ok hn hm hf h3 xe (fun s X1 fg => ya2 (append_ok (op := 2) (x := 0) (y := 0) (dr.fg fg) hi (fun Z fd d2 => h1 _ Z (Or.inr ⟨n6, Or.inr ⟨n3, Or.inr ⟨n4, Or.inr ⟨n5, Or.inl ⟨s, rfl⟩⟩⟩⟩⟩) (fg.fj.tr fd.fj) (fd.xa (fg.xa xa)) d2))) (fun s X1 fg => no2 (firstFree_ok hK (fg.xe xe) (fun k a => ?_) (fun a => yes' rfl (h0 ⟨n6, n3, n4, n5, s, a⟩ X1 fg.fj))))
  have k4 := a.1.1
  have kc := kcode_lt k4
  refine nay' (nI_m1 (by omega)) (lesser_ok k4 (greater_ok k4 (append_ok (op := 1) (dr.fg fg) hi (fun Z fd d2 => h1 _ Z (Or.inr ⟨n6, Or.inr ⟨n3, Or.inr ⟨n4, Or.inr ⟨n5, Or.inr ⟨s, k, a, rfl⟩⟩⟩⟩⟩) (fg.fj.tr fd.fj) (fd.xa (fg.xa xa)) d2))))
