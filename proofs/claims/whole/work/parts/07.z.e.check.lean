/-! PURE: check -/
theorem S1_lp {M : ST} {K x y : Nat} {cs : Nat → Nat} (hK : K ≤ 12) (h : S1 M K cs x y) : (12 * x + y) / 12 = x ∧ (12 * x + y) % 12 = y ∧ 12 * x + y < 144 ∧ lpM M K (12 * x + y) := by
  obtain ⟨h1, h2, h3, h4, h5⟩ := h
  have a : (12 * x + y) / 12 = x := by omega
  have b : (12 * x + y) % 12 = y := by omega
  refine ⟨a, b, by omega, ?_⟩
  unfold lpM
  rw [a, b]
  exact ⟨h1, h2, h3, h4⟩
theorem free_ok {M : ST} {K x y : Nat} {r : List (Nat × Bool)} {X : ST} {post : Int32 → ST → Prop} (xa : XA M K r X) (hx : x < 12) (hy : y < 12) (hne : x ≠ y) (h1 : cso r (pai x y) = 0 → post 1 X) (h0 : ¬ cso r (pai x y) = 0 → post 0 X) : wp_Case_isFree X (nI x) (nI y) post := by
  have v : vp_in (nI x) 12 := vp_in_nI hx (by decide)
  have cl := cso_le r (pai x y)
  refine ⟨v, v, ?_⟩
  rw [nI_clamp (show x < 2 ^ 31 by omega)]
  refine isIn_ok (by omega) (fun b => ya1 (h0 ?_)) (fun b => no1 (h1 ?_))
  · rw [b_or, Bool.or_eq_true, xa.2.2.2.1 x hx y (by omega), xa.2.2.2.2.1 x hx y (by omega), decide_eq_true_iff, decide_eq_true_iff] at b
    omega
  · rw [b_or, Bool.or_eq_false_iff, xa.2.2.2.1 x hx y (by omega), xa.2.2.2.2.1 x hx y (by omega)] at b
    have b1 := of_decide_eq_false b.1
    have b2 := of_decide_eq_false b.2
    have c1 : cso r (pai x y) ≠ 1 := fun z => b1 ⟨hy, hne, z⟩
    have c2 : cso r (pai x y) ≠ 2 := fun z => b2 ⟨hy, hne, z⟩
    omega
theorem twins_ok {n K x y : Nat} {M : ST} {d : Nat → Nat → Nat} {r : List (Nat × Bool)} {X : ST} (xe : XE n M d K r X) (hx : x < K) (ox : m_isOut M x = 0) (hy : y < 32) : bt (x_Lamps_needs X x &&& x_Case_parted X x) y = true ↔ S6 M d K (cso r) x y := by
  have hK := xe.1.1
  rw [b_and, Bool.and_eq_true, xe.2.2.2 x hx y hy, xe.2.2.1.2.2.2.2.1 x (by omega) y hy, decide_eq_true_iff]
  unfold mu0 S6
  rw [decide_eq_true_iff]
  constructor
  · rintro ⟨⟨a1, a2, a3, a4⟩, b1, b2, b3⟩
    exact ⟨⟨hx, ox⟩, ⟨a1, a3⟩, b2, a4, b3⟩
  · rintro ⟨⟨a1, a2⟩, ⟨b1, b2⟩, c1, c2, c3⟩
    exact ⟨⟨b1, a2, b2, c2⟩, by omega, c1, c3⟩
theorem canStand_ok {n K f op : Nat} {M : ST} {d : Nat → Nat → Nat} {r : List (Nat × Bool)} {X : ST} {nn a b : Int32} {post : Int32 → ST → Prop} (hn : n ≤ 511) (hm : ML d K M) (hf : isF M K f) (h3 : 3 ≤ cn (lv M) K) (xe : XE n M d K r X) (op1 : 1 ≤ op) (op6 : op ≤ 6) (h1 : Sd M d K f nn (cso r) op a b → ∀ X', FG X X' → post 1 X') (h0 : ¬ Sd M d K f nn (cso r) op a b → ∀ X', FG X X' → post 0 X') : wp_Judge_canStand X (nI op) a b nn post := by
  have hk := xe.1
  have hK := hk.1
  have rf : FG X X := Fe.rf X
  have opn : ∀ k : Nat, k ≤ 6 → (nI op = nI k ↔ op = k) := fun k hk => nI_eq (by omega) (by omega)
  have bad : ∀ {l : Nat} {p : Int32}, l < K → p = nI l → (p < 0 ∨ nI K ≤ p) → False := fun hl e q => by
    subst e; exact q.elim (nI_pos (by omega)) (nI_ge hl (by omega))
  refine bh (fun e => ?_) (fun e => bh (fun e2 => ?_) (fun e2 => bh (fun e6 => ?_) (fun e6 => ?_)))
  · have e : op = 1 := (opn 1 (by omega)).mp e
    subst e
    have s0 : (∀ x y, a = nI x → b = nI y → ¬ S1 M K (cso r) x y) → ¬ Sd M d K f nn (cso r) 1 a b := by
      intro q z
      rcases z with ⟨_, x, y, ea, eb, s⟩ | z | z | z
      · exact q x y ea eb s
      · exact absurd z.1 (by decide)
      · omega
      · exact absurd z.1 (by decide)
    refine bh (fun c => h0 (s0 (fun x y ea eb s => ?_)) X rf) (fun c => isLive_ok hk (fun q => no2 (h0 (s0 (fun x y ea eb s => bad (by have := s.1; have := s.2.1; omega) ea q)) X rf)) (fun x hx ex ox => ya2 ?_) (fun x hx ex ox => no2 (h0 (s0 (fun x' y ea eb s => ox ?_)) X rf)))
    · subst ea; subst eb
      have := (nI_leI (by have := s.2.1; omega) (by have := s.1; have := s.2.1; omega)).mp c
      have := s.1
      omega
    · refine isLive_ok hk (fun q => no2 (h0 (s0 (fun x y ea eb s => bad s.2.1 eb q)) X rf)) (fun y hy ey oy => ya2 ?_) (fun y hy ey oy => no2 (h0 (s0 (fun x' y' ea eb s => oy ?_)) X rf))
      · subst ex; subst ey
        have lt : x < y := by
          rcases Nat.lt_or_ge x y with w | w
          · exact w
          · exact absurd (nI_le w (by omega)) c
        refine free_ok xe.2.2.1 (by omega) (by omega) (by omega) (fun q => ya2 (h1 (Or.inl ⟨rfl, x, y, rfl, rfl, lt, hy, ox, oy, by rw [← pai_l lt]; exact q⟩) X rf)) (fun q => no2 (h0 (s0 (fun x' y' ea eb s => q ?_)) X rf))
        have ea := (nI_eq (by omega) (by have := s.1; have := s.2.1; omega)).mp ea
        have eb := (nI_eq (by omega) (by have := s.2.1; omega)).mp eb
        subst ea; subst eb
        rw [pai_l lt]; exact s.2.2.2.2
      · have : y = y' := (nI_eq (by omega) (by have := s.2.1; omega)).mp (ey.symm.trans eb)
        subst this; exact s.2.2.2.1
    · have : x = x' := (nI_eq (by omega) (by have := s.1; have := s.2.1; omega)).mp (ex.symm.trans ea)
      subst this; exact s.2.2.1
  · have e2 : op = 2 := (opn 2 (by omega)).mp e2
    subst e2
    refine prices_ok hn hm hf h3 xe (fun q X' fg => ⟨Or.inr rfl, h1 (Or.inr (Or.inl ⟨rfl, q⟩)) X' fg⟩) (fun q X' fg => ⟨Or.inl rfl, h0 (fun z => ?_) X' fg⟩)
    rcases z with z | z | z | z
    · exact absurd z.1 (by decide)
    · exact q z.2
    · omega
    · exact absurd z.1 (by decide)
  · have e6 : op = 6 := (opn 6 (by omega)).mp e6
    subst e6
    have s0 : (∀ x y, a = nI x → b = nI y → ¬ S6 M d K (cso r) x y) → ¬ Sd M d K f nn (cso r) 6 a b := by
      intro q z
      rcases z with z | z | z | ⟨_, x, y, ea, eb, s⟩
      · exact absurd z.1 (by decide)
      · exact absurd z.1 (by decide)
      · omega
      · exact q x y ea eb s
    refine isLive_ok hk (fun q => no2 (h0 (s0 (fun x y ea eb s => bad s.1.1 ea q)) X rf)) (fun x hx ex ox => ya2 ?_) (fun x hx ex ox => no2 (h0 (s0 (fun x' y ea eb s => ox ?_)) X rf))
    · refine isLive_ok hk (fun q => no2 (h0 (s0 (fun x y ea eb s => bad s.2.1.1 eb q)) X rf)) (fun y hy ey oy => ya2 ?_) (fun y hy ey oy => no2 (h0 (s0 (fun x' y' ea eb s => oy ?_)) X rf))
      · subst ex; subst ey
        refine ⟨vp_in_nI (by omega) (by decide), vp_in_nI (by omega) (by decide), ?_⟩
        rw [nI_clamp (show x < 2 ^ 31 by omega)]
        have tw := twins_ok (y := y) xe hx ox (by omega)
        refine isIn_ok (by omega) (fun q => ya2 (h1 (Or.inr (Or.inr (Or.inr ⟨rfl, x, y, rfl, rfl, tw.mp q⟩))) X rf)) (fun q => no2 (h0 (s0 (fun x' y' ea eb s => ?_)) X rf))
        have ea := (nI_eq (by omega) (by have := s.1.1; omega)).mp ea
        have eb := (nI_eq (by omega) (by have := s.2.1.1; omega)).mp eb
        subst ea; subst eb
        rw [tw.mpr s] at q
        exact absurd q (by decide)
      · have : y = y' := (nI_eq (by omega) (by have := s.2.1.1; omega)).mp (ey.symm.trans eb)
        subst this; exact s.2.1.2
    · have : x = x' := (nI_eq (by omega) (by have := s.1.1; omega)).mp (ex.symm.trans ea)
      subst this; exact s.1.2
  · have n1 : op ≠ 1 := fun z => e ((opn 1 (by omega)).mpr z)
    have n2 : op ≠ 2 := fun z => e2 ((opn 2 (by omega)).mpr z)
    have n6 : op ≠ 6 := fun z => e6 ((opn 6 (by omega)).mpr z)
    have s0 : (∀ x, a = nI x → ¬ SA M K (cso r) op x) → ¬ Sd M d K f nn (cso r) op a b := by
      intro q z
      rcases z with z | z | ⟨_, x, ea, s⟩ | z
      · exact n1 z.1
      · exact n2 z.1
      · exact q x ea s
      · exact n6 z.1
    refine isLive_ok hk (fun q => no2 (h0 (s0 (fun x ea s => bad s.1 ea q)) X rf)) (fun x hx ex ox => ya2 ?_) (fun x hx ex ox => no2 (h0 (s0 (fun x' ea s => ox ?_)) X rf))
    · subst ex
      refine alone_ok xe (by omega) hx ox (fun q => ya2 (h1 (Or.inr (Or.inr (Or.inl ⟨by omega, x, rfl, q⟩))) X rf)) (fun q => no2 (h0 (s0 (fun x' ea s => q ?_)) X rf))
      have ea := (nI_eq (by omega) (by have := s.1; omega)).mp ea
      subst ea; exact s
    · have : x = x' := (nI_eq (by omega) (by have := s.1; omega)).mp (ex.symm.trans ea)
      subst this; exact s.2.1
/-! the model's judgement -/
abbrev FZ : ST → ST → Prop := Fe [19] [] [68, 69, 70, 72] []
theorem FZ.fm {M M' : ST} (s : FZ M M') : FM M M' := s.up (fun k hk => by simp only [List.mem_cons, List.not_mem_nil, or_false] at hk ⊢; omega) (fun k hk => hk) (fun k hk => by simp only [List.mem_cons, List.not_mem_nil, or_false] at hk ⊢; omega) (fun k hk => hk)
theorem FT'.fz {M M' : ST} (s : FT' M M') : FZ M M' := s.up (fun k hk => hk) (fun k hk => hk) (fun k hk => by simp only [List.mem_cons, List.not_mem_nil, or_false] at hk ⊢; omega) (fun k hk => hk)
theorem FZ.ma {r : List (Nat × Bool)} {Y Z : ST} (s : FZ Y Z) (h : MA r Y) : MA r Z := by
  unfold MA at h ⊢
  rw [show m_waits Z = _ from s.1 20 (by decide), show m_waiting Z = _ from s.2.2.1 71 (by decide), show m_pairs Z = _ from s.2.2.1 67 (by decide)]
  exact h
theorem mlitp_ok {M Y : ST} {d : Nat → Nat → Nat} {K : Nat} {p : Int32} {post : Int32 → ST → Prop} (fm : FM M Y) (hm : ML d K M) (h0 : (p < 0 ∨ nI K ≤ p) → post 0 Y) (h1 : ∀ l, l < K → p = nI l → m_isOut M l = 0 → post 1 Y) (h2 : ∀ l, l < K → p = nI l → ¬ m_isOut M l = 0 → post 0 Y) : wp_m_isLit Y p post := by
  have hK := hm.1
  have el : m_lamps Y = nI K := (fm.1 16 (by decide)).trans hm.2.1
  refine bh (fun c => no2 (h0 (Or.inl c))) (fun c => ?_)
  rw [el]
  refine bh (fun c2 => no2 (h0 (Or.inr c2))) (fun c2 => ya2 ?_)
  obtain ⟨l, hl, rfl⟩ := nI_of c
  have hlK : l < K := by
    rcases Nat.lt_or_ge l K with y | y
    · exact y
    · exact absurd (nI_le y hl) c2
  refine ⟨vp_in_nI (by omega) (by decide), ?_⟩
  rw [nI_clamp hl, fm.out]
  exact bn (fun q => h2 l hlK rfl q) (fun q => h1 l hlK rfl q)
theorem mtwins_ok {M Y : ST} {d : Nat → Nat → Nat} {K : Nat} {r : List (Nat × Bool)} {a b : Int32} {post : Int32 → ST → Prop} (fm : FM M Y) (hm : ML d K M) (ma : MA r Y) (h1 : (∃ x y, a = nI x ∧ b = nI y ∧ S6 M d K (cso r) x y) → post 1 Y) (h0 : (∀ x y, a = nI x → b = nI y → ¬ S6 M d K (cso r) x y) → post 0 Y) : wp_m_isTwins Y a b post := by
  have hK := hm.1
  have bad : ∀ {l : Nat} {p : Int32}, l < K → p = nI l → (p < 0 ∨ nI K ≤ p) → False := fun hl e q => by
    subst e; exact q.elim (nI_pos (by omega)) (nI_ge hl (by omega))
  refine mlitp_ok fm hm (fun q => no2 (h0 (fun x y ea eb s => bad s.1.1 ea q))) (fun x hx ex ox => ya2 ?_) (fun x hx ex ox => no2 (h0 (fun x' y ea eb s => ox ?_)))
  · refine mlitp_ok fm hm (fun q => no2 (h0 (fun x y ea eb s => bad s.2.1.1 eb q))) (fun y hy ey oy => ya2 ?_) (fun y hy ey oy => no2 (h0 (fun x' y' ea eb s => oy ?_)))
    · subst ex; subst ey
      have back : ∀ x' y', nI x = nI x' → nI y = nI y' → S6 M d K (cso r) x' y' → S6 M d K (cso r) x y := by
        intro x' y' ea eb s
        have ea := (nI_eq (by omega) (by have := s.1.1; omega)).mp ea
        have eb := (nI_eq (by omega) (by have := s.2.1.1; omega)).mp eb
        subst ea; subst eb; exact s
      have p4 := pai_lt (x := x) (y := y) (by omega) (by omega)
      have tail : x ≠ y → (twI M d K x = nI y ∨ twI M d K y = nI x) → wp_m_isTwins_39 post Y (nI x) (nI y) := by
        intro ne tw
        have cl := cso_le r (pai x y)
        refine mpairOf_ok (by omega) (by omega) ne ⟨vp_in_nI p4 (by decide), ?_⟩
        rw [nI_clamp (show pai x y < 2 ^ 31 by omega), ma.2.2 _ p4]
        refine bn (fun c => h0 (fun x' y' ea eb s => c ?_)) (fun c => h1 ⟨x, y, rfl, rfl, ⟨hx, ox⟩, ⟨hy, oy⟩, ne, tw, (nI_eq (b := 2) (by omega) (by decide)).mp c⟩)
        rw [(back x' y' ea eb s).2.2.2.2]; rfl
      refine bh (fun e => h0 (fun x' y' ea eb s => ?_)) (fun e => mtwinOf_ok (fm.ml hm) hx ?_)
      · exact (back x' y' ea eb s).2.2.1 ((nI_eq (by omega) (by omega)).mp e)
      · have ne : x ≠ y := fun z => e (by rw [z])
        rw [fm.tw d]
        refine bh (fun t1 => tail ne (Or.inl t1)) (fun t1 => mtwinOf_ok (fm.ml hm) hy ?_)
        rw [fm.tw d]
        refine bn (fun t2 => h0 (fun x' y' ea eb s => ?_)) (fun t2 => tail ne (Or.inr t2))
        rcases (back x' y' ea eb s).2.2.2.1 with w | w
        · exact t1 w
        · exact t2 w
    · have : y = y' := (nI_eq (by omega) (by have := s.2.1.1; omega)).mp (ey.symm.trans eb)
      subst this; exact s.2.1.2
  · have : x = x' := (nI_eq (by omega) (by have := s.1.1; omega)).mp (ex.symm.trans ea)
    subst this; exact s.1.2
theorem mprices_ok {n K f : Nat} {M X Y : ST} {d : Nat → Nat → Nat} {r : List (Nat × Bool)} {post : Int64 → ST → Prop} {nn : Int32} (hk : LampK n K X M) (hn : n ≤ 511) (hm : ML d K M) (hf : isF M K f) (h3 : 3 ≤ cn (lv M) K) (fm : FM M Y) (ma : MA r Y) (hp : ∀ Z v, FZ Y Z → (S2 M d K f nn (cso r) ↔ ¬ v < nn.toInt64) → post v Z) : wp_m_tree Y post := by
  have hmY := fm.ml hm
  have hfY : isF Y K f := by
    unfold isF
    rw [fm.out]
    exact hf
  have hbY : PB Y K := fun l hl => by
    rw [fm.price]
    exact hk.pb (by omega) l hl
  exact mtree_ok hmY hbY hfY (by rw [fm.lvv]; exact h3) ma.cm (fun Z t c1 c v fZ tm mg vv => hp Z v (FT'.fz fZ) (S2_v (FM.tm fm tm) (FM.vv fm vv)))
theorem malone_ok {K x op : Nat} {M Y : ST} {d : Nat → Nat → Nat} {r : List (Nat × Bool)} {nn b : Int32} {post : Int32 → ST → Prop} (hm : ML d K M) (fm : FM M Y) (ok : OKP M K r) (ma : MA r Y) (hop : op = 3 ∨ op = 4 ∨ op = 5) (hx : x < K) (ox : m_isOut M x = 0) (h1 : SA M K (cso r) op x → ∀ Z, FZ Y Z → post 1 Z) (h0 : ¬ SA M K (cso r) op x → ∀ Z, FZ Y Z → post 0 Z) : wp_m_stands Y (nI op) (nI x) b nn post := by
  have rf : FZ Y Y := Fe.rf Y
  rcases hop with rfl | rfl | rfl
  · refine nay (by decide) (nay (by decide) (yes rfl (misFew_ok fm hm ma.cm hx ox (fun q => ⟨Or.inr rfl, h1 ⟨hx, ox, Or.inl ⟨rfl, q⟩⟩ Y rf⟩) (fun q => ⟨Or.inl rfl, h0 (fun z => ?_) Y rf⟩))))
    have := z.2.2
    omega
  · refine nay (by decide) (nay (by decide) (nay (by decide) (yes rfl (misMany_ok fm hm ma.cm hx ox (fun q => ⟨Or.inr rfl, h1 ⟨hx, ox, Or.inr (Or.inl ⟨rfl, q⟩)⟩ Y rf⟩) (fun q => ⟨Or.inl rfl, h0 (fun z => ?_) Y rf⟩)))))
    have := z.2.2
    omega
  · refine nay (by decide) (nay (by decide) (nay (by decide) (nay (by decide) (yes rfl (misRing_ok fm hm ok ma.cm hx ox (fun q g => ⟨Or.inr rfl, h1 ⟨hx, ox, Or.inr (Or.inr ⟨rfl, q⟩)⟩ _ (rf.sA (by decide) _)⟩) (fun q g => ⟨Or.inl rfl, h0 (fun z => ?_) _ (rf.sA (by decide) _)⟩))))))
    rcases z.2.2 with w | w | w
    · exact absurd w.1 (by decide)
    · exact absurd w.1 (by decide)
    · exact q w.2
theorem malone0_ok {K op : Nat} {M Y : ST} {d : Nat → Nat → Nat} {nn a b : Int32} {post : Int32 → ST → Prop} (hm : ML d K M) (fm : FM M Y) (hop : op = 3 ∨ op = 4 ∨ op = 5) (hno : (a < 0 ∨ nI K ≤ a) ∨ ∃ x, x < K ∧ a = nI x ∧ ¬ m_isOut M x = 0) (h : post 0 Y) : wp_m_stands Y (nI op) a b nn post := by
  have hK := hm.1
  have lit0 : ∀ {P : Int32 → ST → Prop}, P 0 Y → wp_m_isLit Y a P := by
    intro P hP
    refine mlitp_ok fm hm (fun _ => hP) (fun l hl e o => ?_) (fun _ _ _ _ => hP)
    rcases hno with q | ⟨x, hx, ex, ox⟩
    · subst e; exact absurd q (fun q => q.elim (nI_pos (by omega)) (nI_ge hl (by omega)))
    · have : l = x := (nI_eq (by omega) (by omega)).mp (e.symm.trans ex)
      subst this
      exact absurd o ox
  rcases hop with rfl | rfl | rfl
  · exact nay (by decide) (nay (by decide) (yes rfl (lit0 (no1 ⟨Or.inl rfl, h⟩))))
  · exact nay (by decide) (nay (by decide) (nay (by decide) (yes rfl (lit0 (no2 ⟨Or.inl rfl, h⟩)))))
  · exact nay (by decide) (nay (by decide) (nay (by decide) (nay (by decide) (yes rfl (lit0 (no1 ⟨Or.inl rfl, h⟩))))))
theorem mstands_ok' {n K f op : Nat} {M X Y : ST} {d : Nat → Nat → Nat} {r : List (Nat × Bool)} {nn a b : Int32} {post : Int32 → ST → Prop} (hk : LampK n K X M) (hn : n ≤ 511) (hm : ML d K M) (hf : isF M K f) (h3 : 3 ≤ cn (lv M) K) (fm : FM M Y) (ok : OKP M K r) (ma : MA r Y) (op1 : 1 ≤ op) (op6 : op ≤ 6) (h1 : Sd M d K f nn (cso r) op a b → ∀ Z, FZ Y Z → post 1 Z) (h0 : ¬ Sd M d K f nn (cso r) op a b → ∀ Z, FZ Y Z → post 0 Z) : wp_m_stands Y (nI op) a b nn post := by
  have hK := hm.1
  have rf : FZ Y Y := Fe.rf Y
  have bad : ∀ {l : Nat} {p : Int32}, l < K → p = nI l → (p < 0 ∨ nI K ≤ p) → False := fun hl e q => by
    subst e; exact q.elim (nI_pos (by omega)) (nI_ge hl (by omega))
  rcases (by omega : op = 1 ∨ op = 2 ∨ (op = 3 ∨ op = 4 ∨ op = 5) ∨ op = 6) with rfl | rfl | hop | rfl
  · have s0 : (∀ x y, a = nI x → b = nI y → ¬ S1 M K (cso r) x y) → ¬ Sd M d K f nn (cso r) 1 a b := by
      intro q z
      rcases z with ⟨_, x, y, ea, eb, s⟩ | z | z | z
      · exact q x y ea eb s
      · exact absurd z.1 (by decide)
      · omega
      · exact absurd z.1 (by decide)
    refine yes rfl (bh (fun c => ⟨Or.inl rfl, h0 (s0 (fun x y ea eb s => ?_)) Y rf⟩) (fun c => mlitp_ok fm hm (fun q => no2 ⟨Or.inl rfl, h0 (s0 (fun x y ea eb s => bad (by have := s.1; have := s.2.1; omega) ea q)) Y rf⟩) (fun x hx ex ox => ya2 ?_) (fun x hx ex ox => no2 ⟨Or.inl rfl, h0 (s0 (fun x' y ea eb s => ox ?_)) Y rf⟩)))
    · subst ea; subst eb
      have := (nI_leI (by have := s.2.1; omega) (by have := s.1; have := s.2.1; omega)).mp c
      have := s.1
      omega
    · refine mlitp_ok fm hm (fun q => no2 ⟨Or.inl rfl, h0 (s0 (fun x y ea eb s => bad s.2.1 eb q)) Y rf⟩) (fun y hy ey oy => ya2 ?_) (fun y hy ey oy => no2 ⟨Or.inl rfl, h0 (s0 (fun x' y' ea eb s => oy ?_)) Y rf⟩)
      · subst ex; subst ey
        have lt : x < y := by
          rcases Nat.lt_or_ge x y with w | w
          · exact w
          · exact absurd (nI_le w (by omega)) c
        have p4 := pai_lt (x := x) (y := y) (by omega) (by omega)
        have cl := cso_le r (pai x y)
        refine mpairOf_ok (by omega) (by omega) (by omega) ⟨vp_in_nI p4 (by decide), ?_⟩
        rw [nI_clamp (show pai x y < 2 ^ 31 by omega), ma.2.2 _ p4]
        refine bn (fun q => ⟨Or.inl rfl, h0 (s0 (fun x' y' ea eb s => q ?_)) Y rf⟩) (fun q => ⟨Or.inr rfl, h1 (Or.inl ⟨rfl, x, y, rfl, rfl, lt, hy, ox, oy, by rw [← pai_l lt]; exact (nI_eq (b := 0) (by omega) (by decide)).mp q⟩) Y rf⟩)
        have ea := (nI_eq (by omega) (by have := s.1; have := s.2.1; omega)).mp ea
        have eb := (nI_eq (by omega) (by have := s.2.1; omega)).mp eb
        subst ea; subst eb
        rw [pai_l lt, s.2.2.2.2]; rfl
      · have : y = y' := (nI_eq (by omega) (by have := s.2.1; omega)).mp (ey.symm.trans eb)
        subst this; exact s.2.2.2.1
    · have : x = x' := (nI_eq (by omega) (by have := s.1; have := s.2.1; omega)).mp (ex.symm.trans ea)
      subst this; exact s.2.2.1
  · have s2 : Sd M d K f nn (cso r) 2 a b ↔ S2 M d K f nn (cso r) := by
      constructor
      · intro z
        rcases z with z | z | z | z
        · exact absurd z.1 (by decide)
        · exact z.2
        · omega
        · exact absurd z.1 (by decide)
      · exact fun z => Or.inr (Or.inl ⟨rfl, z⟩)
    refine nay (by decide) (yes rfl (mprices_ok (nn := nn) hk hn hm hf h3 fm ma (fun Z v fZ q => bh (fun z => h0 (fun w => q.mp (s2.mp w) z) Z fZ) (fun z => h1 (s2.mpr (q.mpr z)) Z fZ))))
  · have s0 : (∀ x, a = nI x → ¬ SA M K (cso r) op x) → ¬ Sd M d K f nn (cso r) op a b := by
      intro q z
      rcases z with z | z | ⟨_, x, ea, s⟩ | z
      · omega
      · omega
      · exact q x ea s
      · omega
    rcases Classical.em (∃ x, x < K ∧ a = nI x ∧ m_isOut M x = 0) with ⟨x, hx, ex, ox⟩ | q
    · subst ex
      refine malone_ok hm fm ok ma hop hx ox (fun q Z fZ => h1 (Or.inr (Or.inr (Or.inl ⟨hop, x, rfl, q⟩))) Z fZ) (fun q Z fZ => h0 (s0 (fun x' ea s => q ?_)) Z fZ)
      have ea := (nI_eq (by omega) (by have := s.1; omega)).mp ea
      subst ea; exact s
    · refine malone0_ok hm fm hop ?_ (h0 (s0 (fun x ea s => q ⟨x, s.1, ea, s.2.1⟩)) Y rf)
      by_cases c : a < 0
      · exact Or.inl (Or.inl c)
      · by_cases c2 : nI K ≤ a
        · exact Or.inl (Or.inr c2)
        · obtain ⟨l, hl, rfl⟩ := nI_of c
          have hlK : l < K := by
            rcases Nat.lt_or_ge l K with y | y
            · exact y
            · exact absurd (nI_le y hl) c2
          exact Or.inr ⟨l, hlK, rfl, fun o => q ⟨l, hlK, rfl, o⟩⟩
  · refine nay (by decide) (nay (by decide) (nay (by decide) (nay (by decide) (nay (by decide) (mtwins_ok fm hm ma (fun q => ⟨Or.inr rfl, h1 (Or.inr (Or.inr (Or.inr ⟨rfl, q⟩))) Y rf⟩) (fun q => ⟨Or.inl rfl, h0 (fun z => ?_) Y rf⟩))))))
    rcases z with z | z | z | ⟨_, x, y, ea, eb, s⟩
    · exact absurd z.1 (by decide)
    · exact absurd z.1 (by decide)
    · omega
    · exact q x y ea eb s
