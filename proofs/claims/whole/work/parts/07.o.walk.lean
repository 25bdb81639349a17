/-! PURE: walk() -/
def PN (M : ST) (l : Nat) (d : Nat → Nat → Nat) (b v c : Nat) : Prop := ∃ s, EdN M l v c s ∧ s + d c b = d v b
/-- c is the next CROSSING behind v on the WALK to b -/
def IsNx (M : ST) (L : Nat) (d : Nat → Nat → Nat) (b v c : Nat) : Prop := c < 40 ∧ PN M L d b v c ∧ ∀ c', c' < c → ¬ PN M L d b v c'
theorem nx_ex {M : ST} {L b v : Nat} {d : Nat → Nat → Nat} (hL : MLane M L) (hd : IsD (Edg M) d) (hb : b < 40) (hv : v < 40) (hne : v ≠ b) (hf : d v b ≠ FARN) : ∃ c, IsNx M L d b v c := by
  obtain ⟨c, s, h1, h2, h3⟩ := d_step (GE_Edg M) hd hv hb hne hf
  obtain ⟨k, hk, hl⟩ := pk_least (fun c => PN M L d b v c) ⟨c, s, (EdN_Edg hL).mpr h1, h3⟩
  refine ⟨k, ?_, hk, hl⟩
  obtain ⟨s', e, -⟩ := hk
  exact e.1.2.1
theorem nx_lt {M : ST} {L b v c : Nat} {d : Nat → Nat → Nat} (h : IsNx M L d b v c) : d c b < d v b := by
  obtain ⟨-, ⟨s, e, h2⟩, -⟩ := h
  have := e.1.2.2.1
  omega
/-- one LANE and one place -/
theorem lane_at {M : ST} {l u w s v c t : Nat} (e1 : m_from M l = nI u) (e2 : m_to M l = nI w) (e3 : m_length M l = nI s) (hu : u < 40) (hw : w < 40) (hs : s ≤ 1000) (hv : v < 40) (hc : c < 40) (ht : t ≤ 1000) (h3 : m_length M l = nI t) (h : (m_from M l = nI v ∧ m_to M l = nI c) ∨ (m_from M l = nI c ∧ m_to M l = nI v)) : t = s ∧ ((u = v ∧ w = c) ∨ (u = c ∧ w = v)) := by
  refine ⟨((nI_eq (by omega) (by omega)).mp (e3.symm.trans h3)).symm, h.imp (fun q => ⟨(nI_eq (by omega) (by omega)).mp (e1.symm.trans q.1), (nI_eq (by omega) (by omega)).mp (e2.symm.trans q.2)⟩) (fun q => ⟨(nI_eq (by omega) (by omega)).mp (e1.symm.trans q.1), (nI_eq (by omega) (by omega)).mp (e2.symm.trans q.2)⟩)⟩
theorem mnext_ok {M : ST} {L b v c : Nat} {d : Nat → Nat → Nat} {post : Int32 → ST → Prop} (hL : MLane M L) (hb : b < 40) (hv : v < 40) (hm : ∀ a b, a < 40 → b < 40 → m_ways M (40 * a + b) = nI (d a b)) (hle : ∀ a b, a < 40 → b < 40 → d a b ≤ FARN) (hn : IsNx M L d b v c) (h : post (nI c) M) : wp_m_next M (nI v) (nI b) post := by
  have hL1 := hL.1
  have hF : FARN = 1000000000 := rfl
  obtain ⟨hc40, hPc, hmin⟩ := hn
  -- the LANES of one place x: found if PN, else on
  have inner : ∀ (K : ST → Int32 → Int32 → Int32 → Prop) (x : Nat), x < 40 → x ≤ c → (¬ PN M L d b v x → K M (nI v) (nI b) (nI x)) → ∀ (m l : Nat), l + m = L → ¬ PN M l d b v x → wp_m_next_11 (fun M5 v6 => post v6 M5) K post (m + 1) M (nI v) (nI b) (nI x) (nI l) := by
    intro K x hx hxc hK m
    induction m with
    | zero =>
      intro l hl hP
      have : l = L := by omega
      subst this
      exact yes (by rw [hL.2.1]; exact nI_le (Nat.le_refl _) (by omega)) (hK hP)
    | succ m ih =>
      intro l hl hP
      have vl : vp_in (nI l) 100 := vp_in_nI (by omega) (by decide)
      obtain ⟨u, w, s, e1, e2, e3, hu, hw, huw, hs, hs2, -⟩ := hL.2.2 l (by omega)
      refine nay (by rw [hL.2.1]; exact nI_ge (by omega) (by omega)) ⟨vl, ?_⟩
      -- when the LANE doesn't serve
      have skip : ¬ (¬ m_isOpen M l = 0 ∧ ((u = v ∧ w = x) ∨ (u = x ∧ w = v)) ∧ s + d x b = d v b) → wp_m_next_11 (fun M5 v6 => post v6 M5) K post (m + 1) M (nI v) (nI b) (nI x) (nI l + 1) := by
        intro hno
        rw [nI_1]
        refine ih (l + 1) (by omega) (fun ⟨t, e, q⟩ => ?_)
        obtain ⟨⟨z1, z2, z3, z4⟩, j, j1, j2, j3, j4⟩ := e
        by_cases ej : j = l
        · subst ej
          obtain ⟨rfl, q2⟩ := lane_at e1 e2 e3 hu hw hs2 z1 z2 z4 j3 j4
          exact hno ⟨j2, q2, q⟩
        · exact hP ⟨t, ⟨⟨z1, z2, z3, z4⟩, j, by omega, j2, j3, j4⟩, q⟩
      have b1 := hle x b hx hb
      have b2 := hle v b hv hb
      have join1 : ((u = v ∧ w = x) ∨ (u = x ∧ w = v)) → wp_m_next_64 (wp_m_next_11 (fun M5 v6 => post v6 M5) K post (m + 1)) (fun M5 v6 => post v6 M5) post M (nI v) (nI b) (nI x) (nI l) := by
        intro hj
        refine ⟨vl, ?_⟩
        rw [nI_clamp (by omega), e3, ixC, ixC, nI_clamp (by omega), nI_clamp (by omega), hm x b hx hb, hm v b hv hb, nI_add]
        refine bh (fun o => skip (fun q => q.1 o)) (fun o => nay (by decide) ⟨vl, vp_in_nI (by omega) (by decide), vp_in_nI (by omega) (by decide), bn (fun q => skip (fun z => q (by rw [z.2.2]))) (fun q => ?_)⟩)
        have q' := (nI_eq (by omega) (by omega)).mp q
        have : PN M L d b v x := by
          refine ⟨s, ⟨⟨hv, hx, hs, hs2⟩, l, by omega, o, e3, ?_⟩, q'⟩
          rcases hj with ⟨rfl, rfl⟩ | ⟨rfl, rfl⟩
          · exact Or.inl ⟨e1, e2⟩
          · exact Or.inr ⟨e1, e2⟩
        have hxc2 : x = c := by
          rcases Nat.lt_or_ge x c with z | z
          · exact absurd this (hmin x z)
          · omega
        subst hxc2
        exact h
      have join0 : ¬ ((u = v ∧ w = x) ∨ (u = x ∧ w = v)) → wp_m_next_68 (wp_m_next_11 (fun M5 v6 => post v6 M5) K post (m + 1)) (fun M5 v6 => post v6 M5) post M (nI v) (nI b) (nI x) (nI l) := by
        intro hj
        have sk := skip (fun q => hj q.2.1)
        refine ⟨vl, ?_⟩
        exact bh (fun _ => sk) (fun _ => yes rfl sk)
      have j42 : ¬ (u = v ∧ w = x) → wp_m_next_42 (wp_m_next_11 (fun M5 v6 => post v6 M5) K post (m + 1)) (fun M5 v6 => post v6 M5) post M (nI v) (nI b) (nI x) (nI l) := by
        intro hj
        refine ⟨vl, ?_⟩
        rw [nI_clamp (by omega), e1, e2, nI_eq (by omega) (by omega), nI_eq (by omega) (by omega)]
        exact bn (fun q => join0 (fun z => z.elim hj (fun z => q z.1))) (fun q => ⟨vl, bn (fun q2 => join0 (fun z => z.elim hj (fun z => q2 z.2))) (fun q2 => join1 (Or.inr ⟨q, q2⟩))⟩)
      rw [nI_clamp (by omega), e1, e2, nI_eq (by omega) (by omega), nI_eq (by omega) (by omega)]
      exact bn (fun q => j42 (fun z => q z.1)) (fun q => ⟨vl, bh (fun q2 => join1 (Or.inl ⟨q, q2⟩)) (fun q2 => j42 (fun z => q2 z.2))⟩)
  have go : ∀ (m x : Nat), x + m = c → wp_m_next_2 (fun M5 v6 => post v6 M5) (fun M7 => post (-1) M7) post (m + 1) M (nI v) (nI b) (nI x) := by
    intro m
    induction m with
    | zero =>
      intro x hx
      have : x = c := by omega
      subst this
      refine nay (nI_ge (b := 40) (by omega) (by decide)) ⟨_, inner _ x hc40 (Nat.le_refl _) (fun q => absurd hPc q) L 0 (by omega) (fun ⟨s, e, _⟩ => ?_)⟩
      obtain ⟨-, j, hj, -⟩ := e
      exact absurd hj (by omega)
    | succ m ih =>
      intro x hx
      refine nay (nI_ge (b := 40) (by omega) (by decide)) ⟨_, inner _ x (by omega) (by omega) (fun q => ?_) L 0 (by omega) (fun ⟨s, e, _⟩ => ?_)⟩
      · rw [nI_1]; exact ih (x + 1) (by omega)
      · obtain ⟨-, j, hj, -⟩ := e
        exact absurd hj (by omega)
  exact ⟨_, go c 0 (by omega)⟩
theorem xnext_ok {X M : ST} {L b v c q : Nat} {d : Nat → Nat → Nat} {post : Int32 → ST → Prop} (hX : XL X M L) (hd : IsD (Edg M) d) (hb : b < 40) (hv : v < 40) (hf : d v b ≠ FARN) (hw : ∀ o, o < 40 → X.2.2.1 q o = nI (cv (d b o))) (hn : IsNx M L d b v c) (h : post (nI c) X) : wp_Town_nextOnWalk X (nI v) q 40 post := by
  obtain ⟨hL, hcn, hx⟩ := hX
  have hL1 := hL.1
  have hF : FARN = 1000000000 := rfl
  have hE := GE_Edg M
  obtain ⟨hc40, hPc, hmin⟩ := hn
  have hdv := d_39000 hE hd hv hb hf
  have eqv : ∀ s o, s ≤ 1000 → o < 40 → (nI s + nI (cv (d b o)) = nI (cv (d b v)) ↔ s + d o b = d v b) := by
    intro s o hs ho
    rw [d_sym hE hd hb ho, d_sym hE hd hb hv, nI_add]
    have e1 : cv (d v b) = d v b := if_neg hf
    rw [e1]
    unfold cv
    by_cases e : d o b = FARN
    · rw [if_pos e, nI_eq (by omega) (by omega)]; omega
    · rw [if_neg e]
      have := d_39000 hE hd ho hb e
      rw [nI_eq (by omega) (by omega)]
  have go : ∀ (m l x : Nat), l + m = L → ((x = v ∧ ∀ c', ¬ PN M l d b v c') ∨ (PN M l d b v x ∧ ∀ c', PN M l d b v c' → x ≤ c')) → wp_Town_nextOnWalk_5 q 40 (fun X3 v4 => post v4 X3) post (m + 1) X (nI v) (nI x) (nI l) := by
    intro m
    induction m with
    | zero =>
      intro l x hl hI
      have : l = L := by omega
      subst this
      refine yes (by rw [hcn]; exact nI_le (Nat.le_refl _) (by omega)) ?_
      have : x = c := by
        rcases hI with ⟨-, q⟩ | ⟨q1, q2⟩
        · exact absurd hPc (q c)
        · have := q2 c hPc
          rcases Nat.lt_or_ge x c with z | z
          · exact absurd q1 (hmin x z)
          · omega
      subst this
      exact h
    | succ m ih =>
      intro l x hl hI
      have vl : vp_in (nI l) 100 := vp_in_nI (by omega) (by decide)
      obtain ⟨u, w, s, e1, e2, e3, hu, hw', huw, hs, hs2, -⟩ := hL.2.2 l (by omega)
      obtain ⟨⟨x1, x2, x3⟩, x4⟩ := hx l (by omega)
      refine nay (by rw [hcn]; exact nI_ge (by omega) (by omega)) ⟨vl, ?_⟩
      have hx40 : x < 40 := by
        rcases hI with ⟨q, -⟩ | ⟨⟨t, q, -⟩, -⟩
        · omega
        · exact q.1.2.1
      -- PN by one LANE more
      have pn : ∀ o, (∃ t, o < 40 ∧ ¬ m_isOpen M l = 0 ∧ t = s ∧ ((u = v ∧ w = o) ∨ (u = o ∧ w = v)) ∧ t + d o b = d v b) ∨ PN M l d b v o ↔ PN M (l + 1) d b v o := by
        intro o
        constructor
        · rintro (⟨t, z1, z2, rfl, z3, z4⟩ | ⟨t, ⟨z, j, j1, j2⟩, z4⟩)
          · refine ⟨t, ⟨⟨hv, z1, hs, hs2⟩, l, by omega, z2, e3, ?_⟩, z4⟩
            rcases z3 with ⟨rfl, rfl⟩ | ⟨rfl, rfl⟩
            · exact Or.inl ⟨e1, e2⟩
            · exact Or.inr ⟨e1, e2⟩
          · exact ⟨t, ⟨z, j, by omega, j2⟩, z4⟩
        · rintro ⟨t, ⟨⟨z1, z2, z3, z4⟩, j, j1, j2, j3, j4⟩, z5⟩
          by_cases ej : j = l
          · subst ej
            obtain ⟨rfl, q2⟩ := lane_at e1 e2 e3 hu hw' hs2 z1 z2 z4 j3 j4
            exact Or.inl ⟨t, z2, j2, rfl, q2, z5⟩
          · exact Or.inr ⟨t, ⟨⟨z1, z2, z3, z4⟩, j, by omega, j2, j3, j4⟩, z5⟩
      have skip : ¬ (∃ o, o < 40 ∧ ¬ m_isOpen M l = 0 ∧ ((u = v ∧ w = o) ∨ (u = o ∧ w = v)) ∧ s + d o b = d v b) → wp_Town_nextOnWalk_5 q 40 (fun X3 v4 => post v4 X3) post (m + 1) X (nI v) (nI x) (nI l + 1) := by
        intro hno
        rw [nI_1]
        have same : ∀ o, PN M (l + 1) d b v o ↔ PN M l d b v o := fun o => ⟨fun z => ((pn o).mpr z).elim (fun ⟨t, z1, z2, z3, z4, z5⟩ => absurd ⟨o, z1, z2, z4, by rw [← z3]; exact z5⟩ hno) id, fun z => (pn o).mp (Or.inr z)⟩
        refine ih (l + 1) x (by omega) (hI.imp (fun ⟨z1, z2⟩ => ⟨z1, fun c' z => z2 c' ((same c').mp z)⟩) (fun ⟨z1, z2⟩ => ⟨(same x).mpr z1, fun c' z => z2 c' ((same c').mp z)⟩))
      -- with the far end o
      have far : ∀ o, o < 40 → ((u = v ∧ w = o) ∨ (u = o ∧ w = v)) → (nI o = -1 → wp_Town_nextOnWalk_5 q 40 (fun X3 v4 => post v4 X3) post (m + 1) X (nI v) (nI x) (nI l + 1)) ∧ (¬ nI o = -1 → (vp_in (nI l) 100 ∧ ((x_Town_isOpen X (nI l).toNatClampNeg = 0 → wp_Town_nextOnWalk_5 q 40 (fun X3 v4 => post v4 X3) post (m + 1) X (nI v) (nI x) (nI l + 1)) ∧ (¬ x_Town_isOpen X (nI l).toNatClampNeg = 0 → (vp_in (nI l) 100 ∧ (vp_in (nI o) 40 ∧ (vp_in (nI v) 40 ∧ ((¬ (x_Town_size X (nI l).toNatClampNeg + X.2.2.1 q (nI o).toNatClampNeg) = X.2.2.1 q (nI v).toNatClampNeg → wp_Town_nextOnWalk_5 q 40 (fun X3 v4 => post v4 X3) post (m + 1) X (nI v) (nI x) (nI l + 1)) ∧ ((x_Town_size X (nI l).toNatClampNeg + X.2.2.1 q (nI o).toNatClampNeg) = X.2.2.1 q (nI v).toNatClampNeg → ((nI x = nI v → wp_Town_nextOnWalk_5 q 40 (fun X3 v4 => post v4 X3) post (m + 1) X (nI v) (nI o) (nI l + 1)) ∧ (¬ nI x = nI v → ((nI x ≤ nI o → wp_Town_nextOnWalk_5 q 40 (fun X3 v4 => post v4 X3) post (m + 1) X (nI v) (nI x) (nI l + 1)) ∧ (¬ nI x ≤ nI o → wp_Town_nextOnWalk_5 q 40 (fun X3 v4 => post v4 X3) post (m + 1) X (nI v) (nI o) (nI l + 1)))))))))))))) := by
        intro o ho hj
        have uniq : ∀ o', (u = v ∧ w = o') ∨ (u = o' ∧ w = v) → o' = o := by intro o' z; omega
        rw [nI_clamp (by omega), nI_clamp (by omega), nI_clamp (by omega), x3, x4, e3, hw o ho, hw v hv, eqv s o hs2 ho, nI_eq (by omega) (by omega), nI_leI (by omega) (by omega)]
        refine nay (fun z => ?_) ⟨vl, bh (fun z => skip (fun ⟨o', z1, z2, z3, z4⟩ => z2 z)) (fun z => ⟨vl, vp_in_nI ho (by decide), vp_in_nI hv (by decide), bn (fun z2 => skip (fun ⟨o', z1, _, z3, z4⟩ => z2 (by rw [uniq o' z3] at z4; exact z4))) (fun z2 => ?_)⟩)⟩
        · have := congrArg Int32.toInt z
          rw [nI_toInt (by omega)] at this
          have y1 : (-1 : Int32).toInt = -1 := by decide
          omega
        · rw [nI_1]
          have po : PN M (l + 1) d b v o := (pn o).mp (Or.inl ⟨s, ho, z, rfl, hj, z2⟩)
          have other : ∀ c', PN M (l + 1) d b v c' → c' = o ∨ PN M l d b v c' := fun c' z3 => ((pn c').mpr z3).imp (fun ⟨t, y1, y2, y3, y4, y5⟩ => uniq c' y4) id
          have nov : ¬ PN M l d b v v := fun ⟨t, y1, y2⟩ => by have := y1.1.2.2.1; omega
          refine bh (fun z3 => ih (l + 1) o (by omega) (Or.inr ⟨po, fun c' z4 => ?_⟩)) (fun z3 => bh (fun z4 => ih (l + 1) x (by omega) (Or.inr ?_)) (fun z4 => ih (l + 1) o (by omega) (Or.inr ⟨po, fun c' z5 => ?_⟩)))
          · rcases hI with ⟨-, y⟩ | ⟨y, -⟩
            · rcases other c' z4 with y2 | y2
              · omega
              · exact absurd y2 (y c')
            · rw [z3] at y; exact absurd y nov
          · rcases hI with ⟨y, -⟩ | ⟨y, y3⟩
            · exact absurd y z3
            · refine ⟨(pn x).mp (Or.inr y), fun c' z5 => ?_⟩
              rcases other c' z5 with y2 | y2
              · omega
              · exact y3 c' y2
          · rcases hI with ⟨y, -⟩ | ⟨y, y3⟩
            · exact absurd y z3
            · rcases other c' z5 with y2 | y2
              · omega
              · have := y3 c' y2
                omega
      have cl : (nI l).toNatClampNeg = l := nI_clamp (by omega)
      rw [cl, x1, x2, e1, e2]
      refine bn (fun z => ⟨vl, bn (fun z2 => ?_) (fun z2 => ⟨vl, ?_⟩)⟩) (fun z => ⟨vl, ?_⟩)
      · refine yes rfl (skip (fun ⟨o, _, _, z3, _⟩ => ?_))
        rcases z3 with ⟨y, -⟩ | ⟨-, y⟩
        · exact z (by rw [y])
        · exact z2 (by rw [y])
      · have := (nI_eq (by omega) (by omega)).mp z2
        have f1 := far u hu (Or.inr ⟨rfl, this⟩)
        rw [cl] at f1
        exact f1
      · have := (nI_eq (by omega) (by omega)).mp z
        have f1 := far w hw' (Or.inl ⟨this, rfl⟩)
        rw [cl] at f1
        exact f1
  refine ⟨_, go L 0 v (by omega) (Or.inl ⟨rfl, fun c' ⟨t, y, _⟩ => ?_⟩)⟩
  obtain ⟨-, j, hj, -⟩ := y
  exact absurd hj (by omega)
/-- where the WALK is behind m LANES -/
def wres (nx : Nat → Nat) (b : Nat) : Nat → Nat → Option Nat
  | 0, v => some v
  | m + 1, v => if v = b then none else wres nx b m (nx v)
def oi : Option Nat → Int32
  | none => -1
  | some v => nI v
theorem wres_far {nx : Nat → Nat} {d : Nat → Nat → Nat} {b : Nat} (hn : ∀ v, v < 40 → d v b ≠ FARN → v ≠ b → nx v < 40 ∧ d (nx v) b < d v b ∧ d (nx v) b ≠ FARN) : ∀ (m v : Nat), v < 40 → d v b ≠ FARN → rk d b v < m → wres nx b m v = none
  | 0, v, _, _, h => absurd h (by omega)
  | m + 1, v, hv, hf, h => by
    show (if v = b then none else wres nx b m (nx v)) = none
    by_cases e : v = b
    · rw [if_pos e]
    · rw [if_neg e]
      obtain ⟨n1, n2, n3⟩ := hn v hv hf e
      have := rk_lt n1 n2
      exact wres_far hn m (nx v) n1 n3 (by omega)
theorem ls_walk (n : Nat) (X M : ST) (a1 a2 a3 : Int32) (_ : n < 512) (h : Inv n X M) : wp_LR_walk X a1 a2 a3 (fun r X1 => wp_m_walk M a1 a2 a3 (fun q M1 => r = q ∧ Inv (n + 1) X1 M1)) := by
  have hu := h.up
  obtain ⟨d, hd⟩ := h
  have hE := GE_Edg M
  refine cross_ok (fun hb => no2 (mcross0 hb (no2 ⟨rfl, hu⟩))) (fun a ha e => ya2 ?_)
  subst e
  refine cross_ok (fun hb => no1 (mcross1 ha (ya2 (mcross0 hb (no2 ⟨rfl, hu⟩))))) (fun b hb e => ya1 ?_)
  subst e
  refine waysFrom_ok hd hb (fun X' hX' _ hw => ?_)
  have h3 := hX'.2.2.1
  have hD := h3.1
  have hi : Inv (n + 1) X' M := Inv.up ⟨d, hX'⟩
  obtain ⟨L, hXL⟩ := hX'.1.xl
  have hL := hXL.1
  have hle : ∀ a b, a < 40 → b < 40 → d a b ≤ FARN := fun a b ha hb => (hD.2.2 a b ha hb).1
  have hF : FARN = 1000000000 := rfl
  -- the next CROSSING, as a function
  obtain ⟨nx, hnx⟩ := Classical.axiomOfChoice (r := fun v c => v < 40 → d v b ≠ FARN → v ≠ b → IsNx M L d b v c) (fun v => by
    by_cases z : v < 40 ∧ d v b ≠ FARN ∧ v ≠ b
    · obtain ⟨c, hc⟩ := nx_ex hL hD hb z.1 z.2.2 z.2.1
      exact ⟨c, fun _ _ _ => hc⟩
    · exact ⟨0, fun z1 z2 z3 => absurd ⟨z1, z2, z3⟩ z⟩)
  have hstep : ∀ v, v < 40 → d v b ≠ FARN → v ≠ b → nx v < 40 ∧ d (nx v) b < d v b ∧ d (nx v) b ≠ FARN := by
    intro v z1 z2 z3
    have q := hnx v z1 z2 z3
    have q2 := nx_lt q
    refine ⟨q.1, q2, ?_⟩
    have := hle v b z1 hb
    omega
  have mw : ∀ {P : Int32 → ST → Prop}, ((d a b = FARN → P (-1) M) ∧ (d a b ≠ FARN → ((0 ≤ a3 → ∃ n, wp_m_walk_42 (fun M7 => P (-1) M7) (fun M8 v9 => P v9 M8) P n M (nI b) a3 (nI a) 0) ∧ (¬ 0 ≤ a3 → P (-1) M)))) → wp_m_walk M (nI a) (nI b) a3 P := by
    intro P hP
    refine mcross1 ha (ya2 (mcross1 hb (ya2 ?_)))
    rw [ixC]
    refine ⟨vp_in_nI (by omega) (by decide), ?_⟩
    rw [nI_clamp (by omega), h3.2.1 a b ha hb]
    have := hle a b ha hb
    refine bh (fun c => hP.1 ?_) (fun c => hP.2 (fun q => c (by rw [q]; rfl)))
    have := (nI_eq (b := 1000000000) (by omega) (by decide)).mp c
    omega
  -- the model's loop
  have ml : ∀ {P : Int32 → ST → Prop} (i : Nat), i < 2 ^ 31 → ∀ (F v k : Nat), v < 40 → d v b ≠ FARN → k ≤ i → rk d b v + 1 ≤ F → P (oi (wres nx b (i - k) v)) M → wp_m_walk_42 (fun M7 => P (-1) M7) (fun M8 v9 => P v9 M8) P F M (nI b) (nI i) (nI v) (nI k) := by
    intro P i hi31 F
    induction F with
    | zero => intro v k _ _ _ hF; exact absurd hF (by omega)
    | succ F ih =>
      intro v k hv hf hk hr hP
      by_cases e : k = i
      · subst e
        rw [Nat.sub_self] at hP
        exact yes (nI_le (Nat.le_refl _) hi31) hP
      · refine nay (nI_ge (by omega) hi31) ?_
        have ei : i - k = (i - (k + 1)) + 1 := by omega
        rw [ei] at hP
        by_cases ev : v = b
        · have : wres nx b (i - (k + 1) + 1) v = none := if_pos ev
          rw [this] at hP
          exact yes' (by rw [ev]) hP
        · have : wres nx b (i - (k + 1) + 1) v = wres nx b (i - (k + 1)) (nx v) := if_neg ev
          rw [this] at hP
          obtain ⟨n1, n2, n3⟩ := hstep v hv hf ev
          have := rk_lt n1 n2
          refine nay' (fun q => ev ((nI_eq (by omega) (by omega)).mp q)) (mnext_ok hL hb hv h3.2.1 hle (hnx v hv hf ev) ?_)
          rw [nI_1]
          exact ih (nx v) (k + 1) n1 n3 (by omega) (by omega) hP
  -- the class's loop
  have xl : ∀ {P : Int32 → ST → Prop} (i : Nat), i < 2 ^ 31 → ∀ (F v k : Nat), v < 40 → d v b ≠ FARN → k ≤ i → rk d b v + 1 ≤ F → P (oi (wres nx b (i - k) v)) X' → wp_Town_crossingOnWalk_34 (fun X5 => P (-1) X5) (fun X6 v7 => P v7 X6) P F X' (nI b) (nI i) b (nI v) (nI k) := by
    intro P i hi31 F
    induction F with
    | zero => intro v k _ _ _ hF; exact absurd hF (by omega)
    | succ F ih =>
      intro v k hv hf hk hr hP
      by_cases e : k = i
      · subst e
        rw [Nat.sub_self] at hP
        exact yes (nI_le (Nat.le_refl _) hi31) hP
      · refine nay (nI_ge (by omega) hi31) ?_
        have ei : i - k = (i - (k + 1)) + 1 := by omega
        rw [ei] at hP
        by_cases ev : v = b
        · have : wres nx b (i - (k + 1) + 1) v = none := if_pos ev
          rw [this] at hP
          exact yes' (by rw [ev]) hP
        · have : wres nx b (i - (k + 1) + 1) v = wres nx b (i - (k + 1)) (nx v) := if_neg ev
          rw [this] at hP
          obtain ⟨n1, n2, n3⟩ := hstep v hv hf ev
          have := rk_lt n1 n2
          refine nay' (fun q => ev ((nI_eq (by omega) (by omega)).mp q)) (xnext_ok hXL hD hb hv hf (fun o ho => hw o ho) (hnx v hv hf ev) ?_)
          rw [nI_1]
          exact ih (nx v) (k + 1) n1 n3 (by omega) (by omega) hP
  refine bh (fun c => mw ⟨fun _ => ⟨rfl, hi⟩, fun _ => nay (fun q => (le_nlt.mp q) c) ⟨rfl, hi⟩⟩) (fun c => ?_)
  obtain ⟨i, hi31, rfl⟩ := nI_of c
  have hi0 : (0 : Int32) ≤ nI i := nI_pos' hi31
  have hra : rk d b a ≤ 39 := rk_le ha
  refine bh (fun c2 => ?_) (fun c2 => ⟨vp_in_nI ha (by decide), ?_⟩)
  · have hi40 : 40 ≤ i := (nI_leI (a := 40) (by decide) hi31).mp c2
    refine mw ⟨fun _ => ⟨rfl, hi⟩, fun hf => yes hi0 ⟨40, ml (P := fun q M1 => -1 = q ∧ Inv (n + 1) X' M1) i hi31 40 a 0 ha hf (by omega) (by omega) ?_⟩⟩
    rw [Nat.sub_zero, wres_far hstep i a ha hf (by omega)]
    exact ⟨rfl, hi⟩
  · rw [nI_clamp (by omega), hw a ha, cv_far hE hD hb ha, d_sym hE hD hb ha]
    refine bn (fun hf => ⟨40, xl (P := fun r X1 => wp_m_walk M (nI a) (nI b) (nI i) (fun q M1 => r = q ∧ Inv (n + 1) X1 M1)) i hi31 40 a 0 ha hf (by omega) (by omega) ?_⟩) (fun hf => mw ⟨fun _ => ⟨rfl, hi⟩, fun q => absurd hf q⟩)
    exact mw ⟨fun q => absurd q hf, fun _ => yes hi0 ⟨40, ml (P := fun q M1 => oi (wres nx b (i - 0) a) = q ∧ Inv (n + 1) X' M1) i hi31 40 a 0 ha hf (by omega) (by omega) ⟨rfl, hi⟩⟩⟩
