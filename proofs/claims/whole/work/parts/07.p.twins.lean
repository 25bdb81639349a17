/-! PURE: TWINS, the survey -/
/-- what the model knows of LAMPS and WAYS -/
def ML (d : Nat → Nat → Nat) (K : Nat) (M : ST) : Prop := K ≤ 12 ∧ m_lamps M = nI K ∧ (∀ l, l < K → (∃ c, c < 40 ∧ m_crossing M l = nI c) ∧ (m_kind M l = 1 → ∃ o, o < K ∧ m_other M l = nI o ∧ o ≠ l) ∧ bz (m_isOut M l)) ∧ (∀ a b, a < 40 → b < 40 → m_ways M (40 * a + b) = nI (d a b)) ∧ IsD (Edg M) d
theorem LampK.ml {n K : Nat} {X M : ST} {d : Nat → Nat → Nat} (h : LampK n K X M) (h3 : IWay d X M) : ML d K M := ⟨h.1, h.2.2.1, fun l hl => ⟨(h.2.2.2.1 l hl).2.2.2.1, fun q => ((h.2.2.2.1 l hl).2.2.2.2.2.1 q).2, (h.2.2.2.1 l hl).2.2.2.2.2.2.2⟩, h3.2.1, h3.1⟩
theorem InvD.ml {n : Nat} {X M : ST} {d : Nat → Nat → Nat} (h : InvD n d X M) : ∃ K, LampK n K X M ∧ ML d K M := by
  obtain ⟨K, hk⟩ := h.2.2.2.1.k
  exact ⟨K, hk, hk.ml h.2.2.1⟩
theorem ML.cr {d : Nat → Nat → Nat} {K : Nat} {M : ST} (h : ML d K M) {l : Nat} (hl : l < K) : (m_crossing M l).toNatClampNeg < 40 ∧ m_crossing M l = nI (m_crossing M l).toNatClampNeg := by
  obtain ⟨c, hc, e⟩ := (h.2.2.1 l hl).1
  rw [e, nI_clamp (by omega)]
  exact ⟨hc, rfl⟩
theorem ML.wle {d : Nat → Nat → Nat} {K : Nat} {M : ST} (h : ML d K M) {i j : Nat} (hi : i < K) (hj : j < K) : wL M d i j ≤ FARN := (h.2.2.2.2.2.2 _ _ (h.cr hi).1 (h.cr hj).1).1
theorem ML.w39 {d : Nat → Nat → Nat} {K : Nat} {M : ST} (h : ML d K M) {i j : Nat} (hi : i < K) (hj : j < K) (hf : wL M d i j ≠ FARN) : wL M d i j ≤ 39000 := d_39000 (GE_Edg M) h.2.2.2.2 (h.cr hi).1 (h.cr hj).1 hf
theorem ML.wsy {d : Nat → Nat → Nat} {K : Nat} {M : ST} (h : ML d K M) {i j : Nat} (hi : i < K) (hj : j < K) : wL M d i j = wL M d j i := d_sym (GE_Edg M) h.2.2.2.2 (h.cr hi).1 (h.cr hj).1
theorem ML.wtri {d : Nat → Nat → Nat} {K : Nat} {M : ST} (h : ML d K M) {i j k : Nat} (hi : i < K) (hj : j < K) (hk : k < K) : wL M d i k ≤ wL M d i j + wL M d j k := d_tri h.2.2.2.2 (h.cr hi).1 (h.cr hj).1 (h.cr hk).1
theorem between_ok {d : Nat → Nat → Nat} {K : Nat} {M : ST} (h : ML d K M) {i j : Nat} {post : Int32 → ST → Prop} (hi : i < K) (hj : j < K) (hp : post (nI (wL M d i j)) M) : wp_m_between M (nI i) (nI j) post := by
  have hK := h.1
  unfold wp_m_between
  have q1 := h.cr hi
  have q2 := h.cr hj
  rw [nI_clamp (by omega), nI_clamp (by omega), q1.2, q2.2, ixC, nI_clamp (by omega), h.2.2.2.1 _ _ q1.1 q2.1]
  exact ⟨vp_in_nI (by omega) (by decide), vp_in_nI (by omega) (by decide), vp_in_nI (by omega) (by decide), hp⟩
theorem nrF_in {w : Nat → Nat} {l : Nat} : ∀ {j b : Nat}, nrF w l j = some b → b < j ∧ b ≠ l ∧ w b ≠ FARN
  | 0, b, h => by cases h
  | j + 1, b, h => by
    unfold nrF at h
    rcases e : nrF w l j with _ | c
    · rw [e] at h
      by_cases q : j ≠ l ∧ w j ≠ FARN
      · simp only [if_pos q] at h
        cases h
        exact ⟨by omega, q⟩
      · simp only [if_neg q] at h
        cases h
    · rw [e] at h
      have := nrF_in e
      by_cases q : j ≠ l ∧ w j ≠ FARN ∧ w j < w c
      · simp only [if_pos q] at h
        cases h
        exact ⟨by omega, q.1, q.2.1⟩
      · simp only [if_neg q] at h
        cases h
        exact ⟨by omega, this.2⟩
theorem nrF_n {w : Nat → Nat} {l j : Nat} (e : nrF w l j = none) : nrF w l (j + 1) = if j ≠ l ∧ w j ≠ FARN then some j else none := by
  show (match nrF w l j with
    | none => if j ≠ l ∧ w j ≠ FARN then some j else none
    | some b => if j ≠ l ∧ w j ≠ FARN ∧ w j < w b then some j else some b) = _
  rw [e]
theorem nrF_s {w : Nat → Nat} {l j b : Nat} (e : nrF w l j = some b) : nrF w l (j + 1) = if j ≠ l ∧ w j ≠ FARN ∧ w j < w b then some j else some b := by
  show (match nrF w l j with
    | none => if j ≠ l ∧ w j ≠ FARN then some j else none
    | some b => if j ≠ l ∧ w j ≠ FARN ∧ w j < w b then some j else some b) = _
  rw [e]
def nIo : Option Nat → Int32
  | none => -1
  | some j => nI j
theorem twI_2 {M : ST} {d : Nat → Nat → Nat} {K l : Nat} (h : m_kind M l = 2) : twI M d K l = nIo (nrF (wL M d l) l K) := by
  unfold twI
  rw [h, if_neg (by decide), if_pos rfl]
  cases nrF (wL M d l) l K <;> rfl
theorem twI_cases {M : ST} {d : Nat → Nat → Nat} {K l : Nat} (h : ML d K M) (hl : l < K) : twI M d K l = -1 ∨ ∃ o, o < K ∧ o ≠ l ∧ twI M d K l = nI o := by
  by_cases e1 : m_kind M l = 1
  · obtain ⟨o, h1, h2, h3⟩ := (h.2.2.1 l hl).2.1 e1
    refine Or.inr ⟨o, h1, h3, ?_⟩
    unfold twI
    rw [if_pos e1, h2]
  · by_cases e2 : m_kind M l = 2
    · rw [twI_2 e2]
      rcases e : nrF (wL M d l) l K with _ | c
      · exact Or.inl rfl
      · have := nrF_in e
        exact Or.inr ⟨c, this.1, this.2.1, rfl⟩
    · unfold twI
      rw [if_neg e1, if_neg e2]
      exact Or.inl rfl
theorem nI_m1 {j : Nat} (hj : j < 2 ^ 31) : ¬ nI j = -1 := by
  intro z
  have := congrArg Int32.toInt z
  rw [nI_toInt hj] at this
  have y1 : (-1 : Int32).toInt = -1 := by decide
  omega
theorem mtwinOf_ok {d : Nat → Nat → Nat} {K l : Nat} {M : ST} (h : ML d K M) {post : Int32 → ST → Prop} (hl : l < K) (hp : post (twI M d K l) M) : wp_m_twinOf M (nI l) post := by
  have hK := h.1
  have hF : FARN = 1000000000 := rfl
  have vl : vp_in (nI l) 12 := vp_in_nI (by omega) (by decide)
  have cl : (nI l).toNatClampNeg = l := nI_clamp (by omega)
  unfold wp_m_twinOf
  rw [cl]
  refine ⟨vl, bn (fun k1 => ?_) (fun k1 => ⟨vl, ?_⟩)⟩
  · by_cases k2 : m_kind M l = 2
    · rw [twI_2 k2] at hp
      have go : ∀ (m j : Nat), j + m = K → wp_m_twinOf_21 (fun M7 v8 => post v8 M7) post (m + 1) M (nI l) (nIo (nrF (wL M d l) l j)) (nI j) := by
        intro m
        induction m with
        | zero =>
          intro j hj
          have : j = K := by omega
          subst this
          exact yes (by rw [h.2.1]; exact nI_le (Nat.le_refl _) (by omega)) hp
        | succ m ih =>
          intro j hj
          have := ih (j + 1) (by omega)
          refine nay (by rw [h.2.1]; exact nI_ge (by omega) (by omega)) ⟨vl, ?_⟩
          rw [cl, nI_1]
          refine yes' k2 ?_
          have wj := h.wle hl (show j < K by omega)
          rcases e : nrF (wL M d l) l j with _ | b
          · rw [nrF_n e] at this
            refine bh (fun z => ?_) (fun z => between_ok h hl (by omega) (bh (fun z2 => ?_) (fun z2 => yes (by decide) ?_)))
            · have zz := (nI_eq (by omega) (by omega)).mp z
              rw [if_neg (fun q => q.1 zz)] at this
              exact this
            · have zz := (nI_eq (b := 1000000000) (by omega) (by decide)).mp z2
              rw [if_neg (fun q => q.2 (by omega))] at this
              exact this
            · have zz : j ≠ l := fun q => z (by rw [q])
              have z3 : wL M d l j ≠ FARN := fun q => z2 (by rw [q]; rfl)
              rw [if_pos ⟨zz, z3⟩] at this
              exact this
          · rw [nrF_s e] at this
            have hb := nrF_in e
            have wb := h.wle hl (show b < K by omega)
            refine bh (fun z => ?_) (fun z => between_ok h hl (by omega) (bh (fun z2 => ?_) (fun z2 => nay (nI_pos (by omega)) (between_ok h hl (by omega) (between_ok h hl (by omega) (bh (fun z4 => ?_) (fun z4 => ?_)))))))
            · have zz := (nI_eq (by omega) (by omega)).mp z
              rw [if_neg (fun q => q.1 zz)] at this
              exact this
            · have zz := (nI_eq (b := 1000000000) (by omega) (by decide)).mp z2
              rw [if_neg (fun q => q.2.1 (by omega))] at this
              exact this
            · rw [nI_leI (by omega) (by omega)] at z4
              rw [if_neg (fun q => by omega)] at this
              exact this
            · rw [nI_leI (by omega) (by omega)] at z4
              have zz : j ≠ l := fun q => z (by rw [q])
              have z3 : wL M d l j ≠ FARN := fun q => z2 (by rw [q]; rfl)
              rw [if_pos ⟨zz, z3, by omega⟩] at this
              exact this
      exact ⟨_, go K 0 (by omega)⟩
    · have e : twI M d K l = -1 := by
        unfold twI
        rw [if_neg k1, if_neg k2]
      rw [e] at hp
      refine ⟨1, nay (by rw [h.2.1]; exact nI_ge (a := 0) (by omega) (by omega)) ⟨vl, ?_⟩⟩
      rw [cl]
      exact nay' k2 hp
  · have e : twI M d K l = m_other M l := by
      unfold twI
      rw [if_pos k1]
    rw [e] at hp
    exact hp
theorem xtwinOf_ok {d : Nat → Nat → Nat} {n K l : Nat} {X M : ST} (hk : LampK n K X M) (h : ML d K M) (hg : ∀ j, j < K → x_gaps X l j = nI (cv (wL M d l j))) {post : Int32 → ST → Prop} (hl : l < K) (hp : post (twI M d K l) X) : wp_Lamps_twinOf X (nI l) post := by
  have hK := h.1
  have hF : FARN = 1000000000 := rfl
  have vl : vp_in (nI l) 12 := vp_in_nI (by omega) (by decide)
  have cl : (nI l).toNatClampNeg = l := nI_clamp (by omega)
  obtain ⟨o1, o2, o3, o4, o5, o6, o7, o8⟩ := hk.2.2.2.1 l hl
  unfold wp_Lamps_twinOf
  rw [cl, o2]
  refine ⟨vl, bn (fun k1 => ⟨vl, bn (fun k2 => ?_) (fun k2 => ?_)⟩) (fun k1 => ⟨vl, ?_⟩)⟩
  · have e : twI M d K l = -1 := by
      unfold twI
      rw [if_neg k1, if_neg k2]
    rw [e] at hp
    exact hp
  · rw [twI_2 k2] at hp
    have cvl : ∀ j, j < K → cv (wL M d l j) ≤ 1000000 ∧ (cv (wL M d l j) < 1000000 ↔ wL M d l j ≠ FARN) ∧ (wL M d l j ≠ FARN → cv (wL M d l j) = wL M d l j) := by
      intro j hj
      unfold cv
      by_cases e : wL M d l j = FARN
      · rw [if_pos e]; exact ⟨Nat.le_refl _, ⟨fun q => absurd q (by omega), fun q => absurd e q⟩, fun q => absurd e q⟩
      · rw [if_neg e]
        have := h.w39 hl hj e
        exact ⟨by omega, ⟨fun _ => e, fun _ => by omega⟩, fun _ => rfl⟩
    let lst : Option Nat → Int32 := fun o => match o with
      | none => 1000000
      | some b => nI (wL M d l b)
    have go : ∀ (m j : Nat), j + m = K → wp_Lamps_nearest_8 (fun X4 v5 => post v5 X4) post (m + 1) X (nI l) (nIo (nrF (wL M d l) l j)) (lst (nrF (wL M d l) l j)) (nI j) := by
      intro m
      induction m with
      | zero =>
        intro j hj
        have : j = K := by omega
        subst this
        exact yes (by rw [hk.2.1]; exact nI_le (Nat.le_refl _) (by omega)) hp
      | succ m ih =>
        intro j hj
        have := ih (j + 1) (by omega)
        have vj : vp_in (nI j) 12 := vp_in_nI (by omega) (by decide)
        refine nay (by rw [hk.2.1]; exact nI_ge (by omega) (by omega)) ?_
        rw [cl, nI_clamp (by omega), hg j (by omega), nI_1, nI_eq (by omega) (by omega)]
        obtain ⟨c1, c2, c3⟩ := cvl j (by omega)
        rcases e : nrF (wL M d l) l j with _ | b
        · rw [nrF_n e] at this
          refine bh (fun z => ?_) (fun z => ⟨vl, vj, bh (fun z2 => ?_) (fun z2 => ⟨vl, vj, nm ?_⟩)⟩)
          · rw [if_neg (fun q => q.1 z)] at this
            exact this
          · have zz := (nI_leI (a := 1000000) (by decide) (by omega)).mp z2
            rw [if_neg (fun q => by have := c2.mpr q.2; omega)] at this
            exact this
          · have zz : ¬ 1000000 ≤ cv (wL M d l j) := fun q => z2 ((nI_leI (a := 1000000) (by decide) (by omega)).mpr q)
            have z3 := c2.mp (by omega)
            rw [if_pos ⟨z, z3⟩] at this
            rw [c3 z3]
            exact this
        · rw [nrF_s e] at this
          have hb := nrF_in e
          have wb := h.w39 hl (show b < K by omega) hb.2.2
          refine bh (fun z => ?_) (fun z => ⟨vl, vj, bh (fun z2 => ?_) (fun z2 => ⟨vl, vj, nm ?_⟩)⟩)
          · rw [if_neg (fun q => q.1 z)] at this
            exact this
          · have zz := (nI_leI (a := wL M d l b) (by omega) (by omega)).mp z2
            rw [if_neg (fun q => by have := c3 q.2.1; omega)] at this
            exact this
          · have zz : ¬ wL M d l b ≤ cv (wL M d l j) := fun q => z2 ((nI_leI (a := wL M d l b) (by omega) (by omega)).mpr q)
            have z3 := c2.mp (by omega)
            have z4 := c3 z3
            rw [if_pos ⟨z, z3, by omega⟩] at this
            rw [z4]
            exact this
    exact ⟨_, go K 0 (by omega)⟩
  · have e : twI M d K l = m_other M l := by
      unfold twI
      rw [if_pos k1]
    rw [e] at hp
    rw [(o6 k1).1]
    exact hp
