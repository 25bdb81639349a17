/-! PURE: the model's tree -/
abbrev FT' : ST → ST → Prop := Fe [19] [] [68, 69, 70] []
theorem FT'.fm {M M' : ST} (s : FT' M M') : FM M M' := s.up (fun k hk => by simp only [List.mem_cons, List.not_mem_nil, or_false] at hk ⊢; omega) (fun k hk => hk) (fun k hk => by simp only [List.mem_cons, List.not_mem_nil, or_false] at hk ⊢; omega) (fun k hk => hk)
theorem FM.price {M M' : ST} (s : FM M M') : m_price M' = m_price M := s.2.2.1 59 (by decide)
/-- the CASE in the model -/
def CM (cs : Nat → Nat) (M : ST) : Prop := ∀ k, k < 144 → m_pairs M k = nI (cs k) ∧ cs k ≤ 2
theorem FT'.cm {cs : Nat → Nat} {M M' : ST} (s : FT' M M') (h : CM cs M) : CM cs M' := by
  unfold CM at h ⊢
  rw [show m_pairs M' = _ from s.2.2.1 67 (by decide)]
  exact h
theorem mlit_ok {M Y : ST} {d : Nat → Nat → Nat} {K l : Nat} {post : Int32 → ST → Prop} (fm : FM M Y) (hm : ML d K M) (hl : l < 12) (h1 : l < K → m_isOut M l = 0 → post 1 Y) (h0 : ¬ (l < K ∧ m_isOut M l = 0) → post 0 Y) : wp_m_isLit Y (nI l) post := by
  have hK := hm.1
  have el : m_lamps Y = nI K := (fm.1 16 (by decide)).trans hm.2.1
  refine nay (nI_pos (by omega)) ?_
  rw [el]
  refine bh (fun c => no2 (h0 (fun q => ?_))) (fun c => ya2 ⟨vp_in_nI hl (by decide), ?_⟩)
  · have := (nI_leI (by omega) (by omega)).mp c
    omega
  · have hlK : l < K := by
      rcases Nat.lt_or_ge l K with y | y
      · exact y
      · exact absurd (nI_le y (by omega)) c
    rw [nI_clamp (show l < 2 ^ 31 by omega), fm.out]
    exact bn (fun q => h0 (fun z => q z.2)) (fun q => h1 hlK q)
theorem mpair_ok {M Y : ST} {d : Nat → Nat → Nat} {K k : Nat} {post : Int32 → ST → Prop} (fm : FM M Y) (hm : ML d K M) (hk : k < 144) (h1 : lpM M K k → post 1 Y) (h0 : ¬ lpM M K k → post 0 Y) : wp_m_isPair Y (nI k) post := by
  unfold wp_m_isPair
  rw [r12 (show k < 2 ^ 31 by omega), d12 (show k < 2 ^ 31 by omega)]
  refine bh (fun c => h0 (fun q => ?_)) (fun c => mlit_ok fm hm (by omega) (fun a b => ya2 (mlit_ok fm hm (by omega) (fun a' b' => ya2 (h1 ⟨?_, a', b, b'⟩)) (fun q => no2 (h0 (fun z => q ⟨z.2.1, z.2.2.2⟩))))) (fun q => no2 (h0 (fun z => q ⟨?_, z.2.2.1⟩))))
  · have := (nI_leI (by omega) (by omega)).mp c
    have := q.1
    omega
  · rcases Nat.lt_or_ge (k / 12) (k % 12) with y | y
    · exact y
    · exact absurd (nI_le y (by omega)) c
  · have := z.1
    have := z.2.1
    omega
theorem mway_ok {M Y : ST} {d : Nat → Nat → Nat} {K k : Nat} {post : Int32 → ST → Prop} (fm : FM M Y) (hm : ML d K M) (hk : k < 144) (lp : lpM M K k) (h1 : wL M d (k / 12) (k % 12) ≠ FARN → post 1 Y) (h0 : wL M d (k / 12) (k % 12) = FARN → post 0 Y) : wp_m_hasWay Y (nI k) post := by
  have l1 := lp.1
  have l2 := lp.2.1
  unfold wp_m_hasWay
  rw [r12 (show k < 2 ^ 31 by omega), d12 (show k < 2 ^ 31 by omega)]
  refine between_ok (fm.ml hm) (by omega) l2 ?_
  rw [fm.w d]
  have wl := hm.wle (show k / 12 < K by omega) l2
  have : FARN = 1000000000 := rfl
  refine bh (fun c => h0 ?_) (fun c => h1 (fun z => c (by rw [z]; rfl)))
  have := (nI_eq (b := 1000000000) (by omega) (by decide)).mp c
  omega
theorem mpriced_ok {M Y : ST} {d : Nat → Nat → Nat} {K k : Nat} {post : Int64 → ST → Prop} (fm : FM M Y) (hm : ML d K M) (hk : k < 144) (lp : lpM M K k) (h : post (oL (pvM M d k)) Y) : wp_m_priced Y (nI k) post := by
  have hK := hm.1
  have l1 := lp.1
  have l2 := lp.2.1
  unfold wp_m_priced
  rw [r12 (show k < 2 ^ 31 by omega), d12 (show k < 2 ^ 31 by omega)]
  refine nm (nm (between_ok (fm.ml hm) (by omega) l2 ⟨vp_in_nI (by omega) (by decide), vp_in_nI (by omega) (by decide), ?_⟩))
  have wl := hm.wle (show k / 12 < K by omega) l2
  have : FARN = 1000000000 := rfl
  rw [fm.w d, fm.price, nI_clamp (show k / 12 < 2 ^ 31 by omega), nI_clamp (show k % 12 < 2 ^ 31 by omega), oL_nat (by omega), oL_of, oL_of, oL_add, oL_add]
  exact h
theorem mahead_ok {M Y : ST} {d : Nat → Nat → Nat} {K k q : Nat} {cs : Nat → Nat} {post : Int32 → ST → Prop} (fm : FM M Y) (hm : ML d K M) (hb : PB M K) (cm : CM cs Y) (ek : elM M d K cs k) (eq : elM M d K cs q) (h1 : ah (jrM cs) (pvM M d) k q → post 1 Y) (h0 : ¬ ah (jrM cs) (pvM M d) k q → post 0 Y) : wp_m_isAhead Y (nI k) (nI q) post := by
  have k4 := ek.1
  have q4 := eq.1
  have vk : vp_in (nI k) 144 := vp_in_nI k4 (by decide)
  have vq : vp_in (nI q) 144 := vp_in_nI q4 (by decide)
  have pk := pv_b hm hb ek.2.1 ek.2.2.2
  have pq := pv_b hm hb eq.2.1 eq.2.2.2
  obtain ⟨ck, ck2⟩ := cm k k4
  obtain ⟨cq, cq2⟩ := cm q q4
  have nk := ek.2.2.1
  have nq := eq.2.2.1
  have tail : jrM cs k = jrM cs q → wp_m_isAhead_51 post Y (nI k) (nI q) := by
    intro ej
    refine mpriced_ok fm hm k4 ek.2.1 (mpriced_ok fm hm q4 eq.2.1 (bh (fun e => ?_) (fun e => mpriced_ok fm hm k4 ek.2.1 (mpriced_ok fm hm q4 eq.2.1 ?_))))
    · have e := (oL_eq (by omega) (by omega) (by omega) (by omega)).mp e
      refine bh (fun c => h0 (fun z => ?_)) (fun c => h1 ?_)
      · have := (nI_leI (by omega) (by omega)).mp c
        unfold ah at z
        omega
      · have : ¬ q ≤ k := fun z => c (nI_le z (by omega))
        unfold ah
        omega
    · have e : pvM M d k ≠ pvM M d q := fun z => e (by rw [z])
      refine bh (fun c => h0 (fun z => ?_)) (fun c => h1 ?_)
      · have := (oL_le (by omega) (by omega) (by omega) (by omega)).mp c
        unfold ah at z
        omega
      · have : ¬ pvM M d q ≤ pvM M d k := fun z => c ((oL_le (by omega) (by omega) (by omega) (by omega)).mpr z)
        unfold ah
        omega
  have head : jrM cs k ≠ jrM cs q → wp_m_isAhead_35 post Y (nI k) := by
    intro ej
    refine ⟨vk, ?_⟩
    rw [nI_clamp (show k < 2 ^ 31 by omega), ck]
    refine bn (fun c => h0 (fun z => ?_)) (fun c => h1 ?_)
    · have c : cs k ≠ 1 := fun z => c (by rw [z]; rfl)
      unfold ah jrM at z
      unfold jrM at ej
      by_cases y : cs q = 1
      · rw [if_neg c, if_pos y] at z
        omega
      · rw [if_neg c, if_neg y] at ej
        exact absurd rfl ej
    · have c : cs k = 1 := (nI_eq (b := 1) (by omega) (by decide)).mp c
      unfold ah jrM
      unfold jrM at ej
      rw [if_pos c] at ej ⊢
      split at ej
      · omega
      · next y => rw [if_neg y]; omega
  refine ⟨vk, vq, ?_⟩
  rw [nI_clamp (show k < 2 ^ 31 by omega), nI_clamp (show q < 2 ^ 31 by omega), ck, cq]
  refine bh (fun c => tail ?_) (fun c => ⟨vk, bh (fun c1 => head ?_) (fun c1 => ⟨vq, bn (fun c2 => tail ?_) (fun c2 => head ?_)⟩)⟩)
  · have c := (nI_eq (by omega) (by omega)).mp c
    unfold jrM
    rw [c]
  · have c : cs k ≠ cs q := fun z => c (by rw [z])
    have c1 : cs k = 1 := (nI_eq (b := 1) (by omega) (by decide)).mp c1
    unfold jrM
    rw [if_pos c1, if_neg (by omega)]
    omega
  · have c1 : cs k ≠ 1 := fun z => c1 (by rw [z]; rfl)
    have c2 : cs q ≠ 1 := fun z => c2 (by rw [z]; rfl)
    unfold jrM
    rw [if_neg c1, if_neg c2]
  · have c1 : cs k ≠ 1 := fun z => c1 (by rw [z]; rfl)
    have c2 : cs q = 1 := (nI_eq (b := 1) (by omega) (by decide)).mp c2
    unfold jrM
    rw [if_neg c1, if_pos c2]
    omega
theorem mfirst_ok {M Y : ST} {K f : Nat} {post : Int32 → ST → Prop} (fm : FM M Y) (hK : K ≤ 12) (hf : isF M K f) (h : post (nI f) Y) : wp_m_first Y post := by
  have hfK := hf.1
  have go : ∀ (m i : Nat), i + m = f → wp_m_first_2 (fun M1 v2 => post v2 M1) post (m + 1) Y (nI i) := by
    intro m
    induction m with
    | zero =>
      intro i hi
      have : i = f := by omega
      subst this
      refine ⟨vp_in_nI (by omega) (by decide), ?_⟩
      rw [nI_clamp (show i < 2 ^ 31 by omega), fm.out]
      exact yes hf.2.1 h
    | succ m ih =>
      intro i hi
      refine ⟨vp_in_nI (by omega) (by decide), ?_⟩
      rw [nI_clamp (show i < 2 ^ 31 by omega), fm.out, nI_1]
      exact nay (hf.2.2 i (by omega)) (ih (i + 1) (by omega))
  exact ⟨_, go f 0 (by omega)⟩
/-- THE TREE as far as it is grown in the model -/
def MG (t : Nat → Nat) (c : Nat) (Y : ST) : Prop := m_taken Y = nI c ∧ (∀ i, i < c → m_takenPair Y i = nI (t i)) ∧ (∀ l, l < 12 → m_hang Y l = nI (lab t c l)) ∧ ∀ k, k < 144 → (m_isTaken Y k = 0 ↔ ∀ i, i < c → t i ≠ k)
theorem nextPair_ok {M Y : ST} {d : Nat → Nat → Nat} {K f c : Nat} {cs t : Nat → Nat} {post : Int32 → ST → Prop} (fm : FM M Y) (hm : ML d K M) (hb : PB M K) (hf : isF M K f) (cm : CM cs Y) (mg : MG t c Y) {o : Int32} {ob : Bool} (ho : o = if ob = true then 1 else 0) (h1 : ∀ k, Nx (elM M d K cs) (jrM cs) (pvM M d) f ob t c k → post (nI k) Y) (h0 : (∀ k, ¬ cand (elM M d K cs) f ob t c k) → post (-1) Y) : wp_m_nextPair Y o post := by
  have hK := hm.1
  have hfK := hf.1
  have go : ∀ (r k : Nat) (l3 : Int32), k + r = 144 → ((l3 = -1 ∧ ∀ q, q < k → ¬ cand (elM M d K cs) f ob t c q) ∨ ∃ x, l3 = nI x ∧ x < k ∧ cand (elM M d K cs) f ob t c x ∧ ∀ q, q < k → cand (elM M d K cs) f ob t c q → q = x ∨ ah (jrM cs) (pvM M d) x q) → wp_m_nextPair_10 (fun M11 v12 => post v12 M11) post (r + 1) Y o (nI f) l3 (nI k) := by
    intro r
    induction r with
    | zero =>
      intro k l3 hk hl
      refine yes (nI_le (a := 144) (by omega) (by omega)) ?_
      rcases hl with ⟨rfl, q⟩ | ⟨x, rfl, x1, x2, x3⟩
      · exact h0 (fun z cz => q z (by have := cz.1.1; omega) cz)
      · exact h1 x ⟨x2, fun q cq => x3 q (by have := cq.1.1; omega) cq⟩
    | succ r ih =>
      intro k l3 hk hl
      have k4 : k < 144 := by omega
      have vk : vp_in (nI k) 144 := vp_in_nI k4 (by decide)
      obtain ⟨ck, ck2⟩ := cm k k4
      have skip : ¬ cand (elM M d K cs) f ob t c k → wp_m_nextPair_10 (fun M11 v12 => post v12 M11) post (r + 1) Y o (nI f) l3 (nI k + 1) := by
        intro no
        rw [nI_1]
        refine ih (k + 1) l3 (by omega) ?_
        rcases hl with ⟨e, q⟩ | ⟨x, e, x1, x2, x3⟩
        · refine Or.inl ⟨e, fun z hz => ?_⟩
          by_cases y : z = k
          · subst y; exact no
          · exact q z (by omega)
        · refine Or.inr ⟨x, e, by omega, x2, fun z hz cz => ?_⟩
          by_cases y : z = k
          · subst y; exact absurd cz no
          · exact x3 z (by omega) cz
      have hit : cand (elM M d K cs) f ob t c k → wp_m_nextPair_120 (wp_m_nextPair_10 (fun M11 v12 => post v12 M11) post (r + 1)) post Y o (nI f) l3 (nI k) := by
        intro ca
        rcases hl with ⟨rfl, q⟩ | ⟨x, rfl, x1, x2, x3⟩
        · refine yes (by decide) ?_
          rw [nI_1]
          refine ih (k + 1) (nI k) (by omega) (Or.inr ⟨k, rfl, by omega, ca, fun z hz cz => ?_⟩)
          by_cases y : z = k
          · exact Or.inl y
          · exact absurd cz (q z (by omega))
        · refine nay (nI_pos (by omega)) ?_
          rw [nI_1]
          refine mahead_ok fm hm hb cm ca.1 x2.1 (fun a => ya2 (ih (k + 1) (nI k) (by omega) (Or.inr ⟨k, rfl, by omega, ca, fun z hz cz => ?_⟩))) (fun a => no2 (ih (k + 1) (nI x) (by omega) (Or.inr ⟨x, rfl, by omega, x2, fun z hz cz => ?_⟩)))
          · by_cases y : z = k
            · exact Or.inl y
            · rcases x3 z (by omega) cz with w | w
              · rw [w]; exact Or.inr a
              · exact Or.inr (ah_tr a w)
          · by_cases y : z = k
            · subst y
              rcases ah_tri (jr := jrM cs) (pv := pvM M d) (k := z) (q := x) with w | w | w
              · exact Or.inl w
              · exact absurd w a
              · exact Or.inr w
            · exact x3 z (by omega) cz
      refine nay (nI_ge (b := 144) k4 (by decide)) (mpair_ok fm hm k4 (fun lp => ya2 ⟨vk, ?_⟩) (fun lp => no2 (skip (fun ca => lp ca.1.2.1))))
      have l1 := lp.1
      have l2 := lp.2.1
      rw [nI_clamp (show k < 2 ^ 31 by omega), ck]
      refine bh (fun c2 => skip (fun ca => ca.1.2.2.1 ((nI_eq (b := 2) (by omega) (by decide)).mp c2))) (fun c2 => mway_ok fm hm k4 lp (fun hw => ya2 ⟨vk, ?_⟩) (fun hw => no2 (skip (fun ca => ca.1.2.2.2 hw))))
      have c2 : cs k ≠ 2 := fun z => c2 (by rw [z]; rfl)
      have el : elM M d K cs k := ⟨k4, lp, c2, hw⟩
      rw [r12 (show k < 2 ^ 31 by omega), d12 (show k < 2 ^ 31 by omega)]
      refine bh (fun tk => nm (nm ?_)) (fun tk => skip (fun ca => tk ((mg.2.2.2 k k4).mpr ca.2.1)))
      have fresh := (mg.2.2.2 k k4).mp tk
      have nb : k % 12 ≠ f := lp_f hf lp
      have one : k / 12 = f → wp_m_nextPair_86 (wp_m_nextPair_10 (fun M11 v12 => post v12 M11) post (r + 1)) post Y o (nI f) l3 (nI k) (nI (k / 12)) (nI (k % 12)) := by
        intro kf
        rcases ob with _ | _
        · have : o = 0 := by rw [ho]; rfl
          refine nay' (by rw [this]; decide) (skip (fun ca => ?_))
          exact (ca.2.2.2 rfl).1 kf
        · have : o = 1 := by rw [ho]; rfl
          refine yes' this.symm (nay' (by rw [this]; decide) (hit ⟨el, fresh, fun _ => kf, fun z => absurd z (by decide)⟩))
      refine bh (fun e => one ((nI_eq (by omega) (by omega)).mp e)) (fun e => bn (fun e2 => ?_) (fun e2 => absurd ((nI_eq (by omega) (by omega)).mp e2) nb))
      have kf : k / 12 ≠ f := fun z => e (by rw [z])
      rcases ob with _ | _
      · have o0 : o = 0 := by rw [ho]; rfl
        refine yes' o0.symm (yes' o0 ⟨vp_in_nI (by omega) (by decide), vp_in_nI (by omega) (by decide), ?_⟩)
        have la := lab_lt t c (k / 12) (by omega)
        have lb := lab_lt t c (k % 12) (by omega)
        rw [nI_clamp (show k / 12 < 2 ^ 31 by omega), nI_clamp (show k % 12 < 2 ^ 31 by omega), mg.2.2.1 _ (by omega), mg.2.2.1 _ (by omega)]
        refine bh (fun e3 => skip (fun ca => ?_)) (fun e3 => hit ⟨el, fresh, fun z => absurd z (by decide), fun _ => ⟨kf, fun z => e3 (by rw [z])⟩⟩)
        exact (ca.2.2.2 rfl).2 ((nI_eq (by omega) (by omega)).mp e3)
      · have o1 : o = 1 := by rw [ho]; rfl
        refine nay' (by rw [o1]; decide) (skip (fun ca => ?_))
        exact kf (ca.2.2.1 rfl)
  exact mfirst_ok fm hK hf ⟨_, go 144 0 (-1) (by omega) (Or.inl ⟨rfl, fun q hq => absurd hq (by omega)⟩)⟩
theorem hang2 (M : ST) (f g : Nat → Int32) : ms_hang (ms_hang M f) g = ms_hang M g := sA_sA _ _ _ _
theorem hangg (M : ST) (f : Nat → Int32) : m_hang (ms_hang M f) = f := gA_sA _ _ _
theorem hangs (M : ST) : ms_hang M (m_hang M) = M := sA_self M 68
theorem mtake_ok {Y : ST} {k c : Nat} {t : Nat → Nat} {post : ST → Prop} (hk : k < 144) (hc : c < 24) (mg : MG t c Y) (hp : ∀ Z, FT' Y Z → MG (upn t c k) (c + 1) Z → post Z) : wp_m_take Y (nI k) post := by
  obtain ⟨g1, g2, g3, g4⟩ := mg
  have up : ∀ j, j < c → t j = upn t c k j := fun j hj => (upn_n (by omega)).symm
  refine ⟨vp_in_nI hk (by decide), nm ?_⟩
  rw [nI_clamp (show k < 2 ^ 31 by omega), nar1, r12 (show k < 2 ^ 31 by omega), d12 (show k < 2 ^ 31 by omega), show m_taken (ms_isTaken Y (upd (m_isTaken Y) k 1)) = nI c from g1]
  refine ⟨vp_in_nI hc (by decide), nm (nm ⟨vp_in_nI (by omega) (by decide), nm ⟨vp_in_nI (by omega) (by decide), nm ?_⟩⟩)⟩
  rw [nI_clamp (show c < 2 ^ 31 by omega), nI_clamp (show k / 12 < 2 ^ 31 by omega), nI_clamp (show k % 12 < 2 ^ 31 by omega)]
  generalize hZ : ms_taken _ _ = Z
  have fZ : FT' Y Z := by
    rw [← hZ]
    exact (((Fe.rf Y).sA (by decide) _).sA (by decide) _).sI (by decide) _
  have z1 : m_taken Z = nI (c + 1) := by
    rw [← hZ]
    show m_taken Y + 1 = _
    rw [g1, nI_1]
  have z2 : m_takenPair Z = upd (m_takenPair Y) c (nI k) := by rw [← hZ]; exact gA_sA _ _ _
  have z3 : m_hang Z = m_hang Y := by rw [← hZ]; rfl
  have z4 : m_isTaken Z = upd (m_isTaken Y) k 1 := by
    subst hZ
    rfl
  clear hZ
  rw [z3, g3 _ (by omega), g3 _ (by omega)]
  have la := lab_lt t c (k / 12) (by omega)
  have lb := lab_lt t c (k % 12) (by omega)
  have go : ∀ (m i : Nat) (g : Nat → Int32), i + m = 12 → (∀ l, l < i → g l = nI (lab (upn t c k) (c + 1) l)) → (∀ l, i ≤ l → l < 12 → g l = nI (lab t c l)) → wp_m_take_50 (fun M8 => post M8) post (m + 1) (ms_hang Z g) (nI (lab t c (k / 12))) (nI (lab t c (k % 12))) (nI i) := by
    intro m
    induction m with
    | zero =>
      intro i g hi h1 h2
      refine yes (nI_le (a := 12) (by omega) (by omega)) (hp _ (fZ.sA (by decide) _) ⟨z1, fun j hj => ?_, fun l hl => ?_, fun q hq => ?_⟩)
      · show m_takenPair Z j = _
        rw [z2]
        by_cases y : j = c
        · subst y; rw [pk_us, upn_s]
        · rw [pk_un y, upn_n y]; exact g2 j (by omega)
      · rw [hangg]; exact h1 l (by omega)
      · show m_isTaken Z q = 0 ↔ _
        rw [z4]
        by_cases y : q = k
        · subst y
          rw [pk_us]
          constructor
          · intro z; exact absurd z (by decide)
          · intro z; exact absurd (upn_s) (z c (by omega))
        · rw [pk_un y, g4 q hq]
          constructor
          · intro z j hj
            by_cases w : j = c
            · subst w; rw [upn_s]; exact fun e => y e.symm
            · rw [upn_n w]; exact z j (by omega)
          · intro z j hj
            have := z j (by omega)
            rw [upn_n (by omega)] at this
            exact this
    | succ m ih =>
      intro i g hi h1 h2
      have li := lab_lt t c i (by omega)
      have nw : lab (upn t c k) (c + 1) i = if lab t c i = lab t c (k / 12) then lab t c (k % 12) else lab t c i := by
        rw [lab_s, upn_s]
        simp only [← lab_congr c up]
      have v : vp_in (nI i) 12 := vp_in_nI (by omega) (by decide)
      refine nay (nI_ge (b := 12) (by omega) (by decide)) ⟨v, ?_⟩
      rw [hangg, nI_clamp (show i < 2 ^ 31 by omega), h2 i (Nat.le_refl _) (by omega), nI_1]
      refine bn (fun e => ⟨v, v, nm ?_⟩) (fun e => ⟨v, nm ?_⟩)
      · rw [hang2]
        refine ih (i + 1) _ (by omega) (fun l hl => ?_) (fun l a b => ?_)
        · by_cases y : l = i
          · subst y; rw [pk_us, nw, if_neg (fun z => e (by rw [z]))]
          · rw [pk_un y]; exact h1 l (by omega)
        · rw [pk_un (by omega)]; exact h2 l (by omega) b
      · have e := (nI_eq (by omega) (by omega)).mp e
        rw [hang2]
        refine ih (i + 1) _ (by omega) (fun l hl => ?_) (fun l a b => ?_)
        · by_cases y : l = i
          · subst y; rw [pk_us, nw, if_pos e]
          · rw [pk_un y]; exact h1 l (by omega)
        · rw [pk_un (by omega)]; exact h2 l (by omega) b
  have st := go 12 0 (m_hang Z) (by omega) (fun l hl => absurd hl (by omega)) (fun l _ hl => by rw [z3]; exact g3 l hl)
  rw [hangs] at st
  exact ⟨_, st⟩
/-- THE BOUND -/
def VV (M : ST) (d : Nat → Nat → Nat) (K f : Nat) (t : Nat → Nat) (c1 c : Nat) (v : Int64) : Prop := (c = c1 + 2 ∧ (∀ l, l < K → m_isOut M l = 0 → lab t c l = lab t c f) ∧ v = oL (psum (pvM M d) t c - 2 * plit M K)) ∨ (¬ (c = c1 + 2 ∧ ∀ l, l < K → m_isOut M l = 0 → lab t c l = lab t c f) ∧ v = 4611686018427387904)
theorem mtree_ok {M : ST} {d : Nat → Nat → Nat} {K f : Nat} {cs : Nat → Nat} {post : Int64 → ST → Prop} (hm : ML d K M) (hb : PB M K) (hf : isF M K f) (h3 : 3 ≤ cn (lv M) K) (cm : CM cs M) (hp : ∀ Y t c1 c v, FT' M Y → TM M d K cs f t c1 c → MG t c Y → VV M d K f t c1 c v → post v Y) : wp_m_tree M post := by
  have hK := hm.1
  have hfK := hf.1
  have hcK := cn_le (lv M) K
  -- the last loop: what hangs with THE FIRST
  have last : ∀ (Y : ST) (t : Nat → Nat) (c1 c : Nat), FT' M Y → TM M d K cs f t c1 c → MG t c Y → ∀ (K155 : ST → Int64 → Int32 → Prop), (∀ v l5, ((l5 = 1 ∧ VV M d K f t c1 c v) ∨ (l5 = 0 ∧ VV M d K f t c1 c 4611686018427387904)) → K155 Y v l5) → ∀ l5 : Int32, l5 = (if c = c1 + 2 then 1 else 0) → ∃ n, wp_m_tree_155 K155 post n Y (oL (psum (pvM M d) t c)) l5 0 := by
    intro Y t c1 c fY tm mg K155 h155 l5 hl5
    have fm := fY.fm
    have el : m_lamps Y = nI K := (fm.1 16 (by decide)).trans hm.2.1
    have a11 : (1 : Int32) &&& 1 = 1 := by decide
    have a01 : (0 : Int32) &&& 1 = 0 := by decide
    have a10 : (1 : Int32) &&& 0 = 0 := by decide
    have a00 : (0 : Int32) &&& 0 = 0 := by decide
    have go : ∀ (r l : Nat) (s : Int32), l + r = K → ((s = 1 ∧ c = c1 + 2 ∧ ∀ l', l' < l → m_isOut M l' = 0 → lab t c l' = lab t c f) ∨ (s = 0 ∧ ¬ (c = c1 + 2 ∧ ∀ l, l < K → m_isOut M l = 0 → lab t c l = lab t c f))) → wp_m_tree_155 K155 post (r + 1) Y (oL (psum (pvM M d) t c - 2 * plit M l)) s (nI l) := by
      intro r
      induction r with
      | zero =>
        intro l s hl hs
        have : l = K := by omega
        subst this
        refine yes (by rw [el]; exact nI_le (Nat.le_refl _) (by omega)) (h155 _ _ ?_)
        rcases hs with ⟨e, q1, q2⟩ | ⟨e, q⟩
        · exact Or.inl ⟨e, Or.inl ⟨q1, q2, rfl⟩⟩
        · exact Or.inr ⟨e, Or.inr ⟨q, rfl⟩⟩
      | succ r ih =>
        intro l s hl hs
        have v : vp_in (nI l) 12 := vp_in_nI (by omega) (by decide)
        have st := ih (l + 1)
        rw [plit_s] at st
        have tail : ∀ s', ((s' = 1 ∧ c = c1 + 2 ∧ ∀ l', l' < l + 1 → m_isOut M l' = 0 → lab t c l' = lab t c f) ∨ (s' = 0 ∧ ¬ (c = c1 + 2 ∧ ∀ l, l < K → m_isOut M l = 0 → lab t c l = lab t c f))) → vp_in (nI l) 12 ∧ (((m_isOut Y (nI l).toNatClampNeg) = 0 → (vp_in (nI l) 12 ∧ (∀ v28 : Int64, v28 = oL (psum (pvM M d) t c - 2 * plit M l) - (2 * ((m_price Y (nI l).toNatClampNeg).toInt64)) → wp_m_tree_155 K155 post (r + 1) Y v28 s' (nI l + 1)))) ∧ (¬ (m_isOut Y (nI l).toNatClampNeg) = 0 → (∀ v29 : Int64, v29 = oL (psum (pvM M d) t c - 2 * plit M l) - 0 → wp_m_tree_155 K155 post (r + 1) Y v29 s' (nI l + 1)))) := by
          intro s' hs'
          have st := st s' (by omega) hs'
          rw [nI_clamp (show l < 2 ^ 31 by omega), fm.out, fm.price, nI_1]
          refine ⟨v, bh (fun o => ⟨v, nm ?_⟩) (fun o => nm ?_)⟩
          · rw [if_pos o] at st
            rw [oL_of, show (2 : Int64) = oL 2 from rfl, oL_mul, oL_sub, show psum (pvM M d) t c - 2 * plit M l - 2 * (m_price M l).toInt = psum (pvM M d) t c - 2 * (plit M l + (m_price M l).toInt) by omega]
            exact st
          · rw [if_neg o, Int.add_zero] at st
            rw [show (0 : Int64) = oL 0 from rfl, oL_sub, Int.sub_zero]
            exact st
        have good : (m_isOut M l = 0 → lab t c l = lab t c f) → wp_m_tree_195 (wp_m_tree_155 K155 post (r + 1)) post Y (oL (psum (pvM M d) t c - 2 * plit M l)) (nI l) s := by
          intro g
          refine nm ?_
          rcases hs with ⟨e, q1, q2⟩ | ⟨e, q⟩
          · rw [e, a11]
            refine tail 1 (Or.inl ⟨rfl, q1, fun l' hl' => ?_⟩)
            by_cases y : l' = l
            · subst y; exact g
            · exact q2 l' (by omega)
          · rw [e, a01]
            exact tail 0 (Or.inr ⟨rfl, q⟩)
        refine nay (by rw [el]; exact nI_ge (by omega) (by omega)) ⟨v, ?_⟩
        rw [nI_clamp (show l < 2 ^ 31 by omega), fm.out]
        refine bn (fun o => good (fun z => absurd z o)) (fun o => ⟨v, mfirst_ok fm hK hf ⟨vp_in_nI (by omega) (by decide), ?_⟩⟩)
        have ll := lab_lt t c l (by omega)
        have lf := lab_lt t c f (by omega)
        rw [nI_clamp (show f < 2 ^ 31 by omega), mg.2.2.1 l (by omega), mg.2.2.1 f (by omega)]
        refine bn (fun e => nm ?_) (fun e => good (fun _ => (nI_eq (by omega) (by omega)).mp e))
        have e : lab t c l ≠ lab t c f := fun z => e (by rw [z])
        have bad : ¬ (c = c1 + 2 ∧ ∀ l, l < K → m_isOut M l = 0 → lab t c l = lab t c f) := fun z => e (z.2 l (by omega) o)
        rcases hs with ⟨es, q1, q2⟩ | ⟨es, q⟩
        · rw [es, a10]; exact tail 0 (Or.inr ⟨rfl, bad⟩)
        · rw [es, a00]; exact tail 0 (Or.inr ⟨rfl, bad⟩)
    have st := go K 0 l5 (by omega) (by
      rw [hl5]
      split
      · next q => exact Or.inl ⟨rfl, q, fun l' hl' => absurd hl' (by omega)⟩
      · next q => exact Or.inr ⟨rfl, fun z => q z.1⟩)
    rw [show psum (pvM M d) t c - 2 * plit M 0 = psum (pvM M d) t c by show _ - 2 * 0 = _; omega] at st
    exact ⟨_, st⟩
  -- the sum of what is taken
  have sums : ∀ (Y : ST) (t : Nat → Nat) (c : Nat), FT' M Y → (∀ i, i < c → elM M d K cs (t i)) → c ≤ 12 → MG t c Y → ∀ (K140 : ST → Int32 → Int64 → Prop) (l2 : Int32), K140 Y l2 (oL (psum (pvM M d) t c)) → ∃ n, wp_m_tree_111 K140 post n Y l2 0 0 := by
    intro Y t c fY el hc mg K140 l2 hK140
    have go : ∀ (r i : Nat), i + r = c → wp_m_tree_111 K140 post (r + 1) Y l2 (oL (psum (pvM M d) t i)) (nI i) := by
      intro r
      induction r with
      | zero =>
        intro i hi
        have : i = c := by omega
        subst this
        exact yes (by rw [mg.1]; exact nI_le (Nat.le_refl _) (by omega)) hK140
      | succ r ih =>
        intro i hi
        have e := el i (by omega)
        refine nay (by rw [mg.1]; exact nI_ge (by omega) (by omega)) ⟨vp_in_nI (by omega) (by decide), ?_⟩
        rw [nI_clamp (show i < 2 ^ 31 by omega), mg.2.1 i (by omega)]
        refine mpriced_ok fY.fm hm e.1 e.2.1 (nm ?_)
        rw [oL_add, nI_1]
        exact ih (i + 1) (by omega)
    exact ⟨_, go c 0 (by omega)⟩
  -- the pairs of THE FIRST
  have phase2 : ∀ (K106 : ST → Int32 → Prop), (∀ Y t c1 c, FT' M Y → TM M d K cs f t c1 c → c ≤ 12 → MG t c Y → K106 Y (nI (c - c1))) → ∀ (r : Nat) (Y : ST) (t : Nat → Nat) (c1 cf : Nat) (v : Int32), cf + r = 2 → FT' M Y → MG t (c1 + cf) Y → (∀ i, i < c1 → Nx (elM M d K cs) (jrM cs) (pvM M d) f false t i (t i)) → (∀ k, ¬ cand (elM M d K cs) f false t c1 k) → (∀ i, c1 ≤ i → i < c1 + cf → Nx (elM M d K cs) (jrM cs) (pvM M d) f true t i (t i)) → ((v = -1 ∧ ∀ k, ¬ cand (elM M d K cs) f true t (c1 + cf) k) ∨ ∃ k, v = nI k ∧ Nx (elM M d K cs) (jrM cs) (pvM M d) f true t (c1 + cf) k) → wp_m_tree_80 K106 post (r + 1) Y v (nI cf) := by
    intro K106 h106 r
    induction r with
    | zero =>
      intro Y t c1 cf v hr fY mg n1 no n2 hv
      have sl := seq_le hf h3 (fun j hj => (n1 j hj).1)
      have fin : K106 Y (nI cf) := by
        have := h106 Y t c1 (c1 + cf) fY ⟨n1, no, by omega, by omega, n2, Or.inl (by omega)⟩ (by omega) mg
        rw [show c1 + cf - c1 = cf by omega] at this
        exact this
      rcases hv with ⟨rfl, z⟩ | ⟨k, rfl, nk⟩
      · exact yes (by decide) fin
      · exact nay (nI_pos (by have := nk.1.1.1; omega)) (yes (nI_le (a := 2) (by omega) (by omega)) fin)
    | succ r ih =>
      intro Y t c1 cf v hr fY mg n1 no n2 hv
      have sl := seq_le hf h3 (fun j hj => (n1 j hj).1)
      rcases hv with ⟨rfl, z⟩ | ⟨k, rfl, nk⟩
      · refine yes (by decide) ?_
        have := h106 Y t c1 (c1 + cf) fY ⟨n1, no, by omega, by omega, n2, Or.inr z⟩ (by omega) mg
        rw [show c1 + cf - c1 = cf by omega] at this
        exact this
      · refine nay (nI_pos (by have := nk.1.1.1; omega)) (nay (nI_ge (b := 2) (by omega) (by decide)) (mtake_ok nk.1.1.1 (by omega) mg (fun Z fZ mZ => ?_)))
        rw [nI_1]
        have fMZ : FT' M Z := fY.tr fZ
        have stp : ∀ v', ((v' = -1 ∧ ∀ q, ¬ cand (elM M d K cs) f true (upn t (c1 + cf) k) (c1 + (cf + 1)) q) ∨ ∃ q, v' = nI q ∧ Nx (elM M d K cs) (jrM cs) (pvM M d) f true (upn t (c1 + cf) k) (c1 + (cf + 1)) q) → wp_m_tree_80 K106 post (r + 1) Z v' (nI (cf + 1)) := by
          intro v' hv'
          refine ih Z (upn t (c1 + cf) k) c1 (cf + 1) v' (by omega) fMZ mZ (fun i hi => Nx_upn (by omega) (n1 i hi)) (fun q cq => no q (cand_congr (fun i hi => upn_n (by omega)) cq)) (fun i a b => ?_) hv'
          by_cases y : i = c1 + cf
          · subst y; exact Nx_upc nk
          · exact Nx_upn (by omega) (n2 i a (by omega))
        exact nextPair_ok (FT'.fm fMZ) hm hb hf (FT'.cm fMZ cm) mZ (ob := true) rfl (fun q nq => stp _ (Or.inr ⟨q, rfl, nq⟩)) (fun z => stp _ (Or.inl ⟨rfl, z⟩))
  -- the pairs of others
  have phase1 : ∀ (K72 : ST → Prop), (∀ Y t c1, FT' M Y → MG t c1 Y → (∀ i, i < c1 → Nx (elM M d K cs) (jrM cs) (pvM M d) f false t i (t i)) → (∀ k, ¬ cand (elM M d K cs) f false t c1 k) → K72 Y) → ∀ (r : Nat) (Y : ST) (t : Nat → Nat) (c : Nat) (v : Int32), c + r = 12 → FT' M Y → MG t c Y → (∀ i, i < c → Nx (elM M d K cs) (jrM cs) (pvM M d) f false t i (t i)) → ((v = -1 ∧ ∀ k, ¬ cand (elM M d K cs) f false t c k) ∨ ∃ k, v = nI k ∧ Nx (elM M d K cs) (jrM cs) (pvM M d) f false t c k) → wp_m_tree_54 K72 post (r + 1) Y v := by
    intro K72 h72 r
    induction r with
    | zero =>
      intro Y t c v hr fY mg n1
      have sl := seq_le hf h3 (fun j hj => (n1 j hj).1)
      omega
    | succ r ih =>
      intro Y t c v hr fY mg n1 hv
      rcases hv with ⟨rfl, z⟩ | ⟨k, rfl, nk⟩
      · exact yes (by decide) (h72 Y t c fY mg n1 z)
      · refine nay (nI_pos (by have := nk.1.1.1; omega)) (mtake_ok nk.1.1.1 (by omega) mg (fun Z fZ mZ => ?_))
        have fMZ : FT' M Z := fY.tr fZ
        have stp : ∀ v', ((v' = -1 ∧ ∀ q, ¬ cand (elM M d K cs) f false (upn t c k) (c + 1) q) ∨ ∃ q, v' = nI q ∧ Nx (elM M d K cs) (jrM cs) (pvM M d) f false (upn t c k) (c + 1) q) → wp_m_tree_54 K72 post (r + 1) Z v' := by
          intro v' hv'
          refine ih Z (upn t c k) (c + 1) v' (by omega) fMZ mZ (fun i hi => ?_) hv'
          by_cases y : i = c
          · subst y; exact Nx_upc nk
          · exact Nx_upn (by omega) (n1 i (by omega))
        exact nextPair_ok (FT'.fm fMZ) hm hb hf (FT'.cm fMZ cm) mZ (ob := false) rfl (fun q nq => stp _ (Or.inr ⟨q, rfl, nq⟩)) (fun z => stp _ (Or.inl ⟨rfl, z⟩))
  -- the start
  have tk2 : ∀ (Y : ST) (f g : Nat → Int32), ms_isTaken (ms_isTaken Y f) g = ms_isTaken Y g := fun Y f g => sA_sA _ _ _ _
  have tkg : ∀ (Y : ST) (f : Nat → Int32), m_isTaken (ms_isTaken Y f) = f := fun Y f => gA_sA _ _ _
  have st2 : ∀ (Y : ST) (K48 : ST → Prop), (∀ g, (∀ l, l < 12 → g l = nI l) → K48 (ms_hang Y g)) → ∃ n, wp_m_tree_29 K48 post n Y 0 := by
    intro Y K48 h
    have go : ∀ (m i : Nat) (g : Nat → Int32), i + m = 12 → (∀ l, l < i → g l = nI l) → wp_m_tree_29 K48 post (m + 1) (ms_hang Y g) (nI i) := by
      intro m
      induction m with
      | zero =>
        intro i g hi h1
        exact yes (nI_le (a := 12) (by omega) (by omega)) (h g (fun l hl => h1 l (by omega)))
      | succ m ih =>
        intro i g hi h1
        refine nay (nI_ge (b := 12) (by omega) (by decide)) ⟨vp_in_nI (by omega) (by decide), nm ?_⟩
        rw [hang2, hangg, nI_clamp (show i < 2 ^ 31 by omega), nI_1]
        refine ih (i + 1) _ (by omega) (fun l hl => ?_)
        by_cases y : l = i
        · subst y; rw [pk_us]
        · rw [pk_un y]; exact h1 l (by omega)
    have st := go 12 0 (m_hang Y) (by omega) (fun l hl => absurd hl (by omega))
    rw [hangs] at st
    exact ⟨_, st⟩
  have st1 : ∀ (Y : ST) (K27 : ST → Prop), (∀ g, (∀ l, l < 144 → g l = 0) → K27 (ms_isTaken Y g)) → ∃ n, wp_m_tree_7 K27 post n Y 0 := by
    intro Y K27 h
    have go : ∀ (m i : Nat) (g : Nat → Int32), i + m = 144 → (∀ l, l < i → g l = 0) → wp_m_tree_7 K27 post (m + 1) (ms_isTaken Y g) (nI i) := by
      intro m
      induction m with
      | zero =>
        intro i g hi h1
        exact yes (nI_le (a := 144) (by omega) (by omega)) (h g (fun l hl => h1 l (by omega)))
      | succ m ih =>
        intro i g hi h1
        refine nay (nI_ge (b := 144) (by omega) (by decide)) ⟨vp_in_nI (by omega) (by decide), nm ?_⟩
        rw [tk2, tkg, nI_clamp (show i < 2 ^ 31 by omega), nI_1, nar0]
        refine ih (i + 1) _ (by omega) (fun l hl => ?_)
        by_cases y : l = i
        · subst y; rw [pk_us]
        · rw [pk_un y]; exact h1 l (by omega)
    have st := go 144 0 (m_isTaken Y) (by omega) (fun l hl => absurd hl (by omega))
    rw [show ms_isTaken Y (m_isTaken Y) = Y from sA_self Y 70] at st
    exact ⟨_, st⟩
  refine nm (st1 _ _ (fun ga hga => st2 _ _ (fun gb hgb => ?_)))
  have mg0 : MG (fun _ => 0) 0 (ms_hang (ms_isTaken (ms_taken M 0) ga) gb) := by
    refine ⟨rfl, fun i hi => absurd hi (by omega), fun l hl => ?_, fun k hk => ?_⟩
    · rw [hangg]; exact hgb l hl
    · show ga k = 0 ↔ _
      rw [hga k hk]
      exact ⟨fun _ i hi => absurd hi (by omega), fun _ => rfl⟩
  have fin : ∀ Y t c1 c, FT' M Y → TM M d K cs f t c1 c → c ≤ 12 → MG t c Y → ∃ n, wp_m_tree_111 (fun M24 v25 v26 => (¬ v25 = 2 → (∃ n, wp_m_tree_155 (fun M32 v33 v34 => (v34 = 0 → (post 4611686018427387904 M32)) ∧ (¬ v34 = 0 → (post v33 M32))) post n M24 v26 0 0)) ∧ (v25 = 2 → (∃ n, wp_m_tree_155 (fun M35 v36 v37 => (v37 = 0 → (post 4611686018427387904 M35)) ∧ (¬ v37 = 0 → (post v36 M35))) post n M24 v26 1 0))) post n Y (nI (c - c1)) 0 0 := by
    intro Y t c1 c fY tm c12 mg
    have c2 := tm.2.2.2.1
    have fv : ∀ (v : Int64) (l5 : Int32), ((l5 = 1 ∧ VV M d K f t c1 c v) ∨ (l5 = 0 ∧ VV M d K f t c1 c 4611686018427387904)) → (l5 = 0 → (post 4611686018427387904 Y)) ∧ (¬ l5 = 0 → (post v Y)) := by
      intro v l5 q
      rcases q with ⟨rfl, q⟩ | ⟨rfl, q⟩
      · exact ya2 (hp Y t c1 c v fY tm mg q)
      · exact no2 (hp Y t c1 c _ fY tm mg q)
    refine sums Y t c fY tm.lits c12 mg _ _ (bn (fun q => last Y t c1 c fY tm mg _ fv 0 ?_) (fun q => last Y t c1 c fY tm mg _ fv 1 ?_))
    · rw [if_neg (fun z => q (by rw [show c - c1 = 2 by omega]; rfl))]
    · have := (nI_eq (b := 2) (by omega) (by decide)).mp q
      have := tm.2.2.1
      rw [if_pos (by omega)]
  have f0 : FT' M (ms_hang (ms_isTaken (ms_taken M 0) ga) gb) := (((Fe.rf M).sI (by decide) _).sA (by decide) _).sA (by decide) _
  have two : ∀ Y t c1, FT' M Y → MG t c1 Y → (∀ i, i < c1 → Nx (elM M d K cs) (jrM cs) (pvM M d) f false t i (t i)) → (∀ k, ¬ cand (elM M d K cs) f false t c1 k) → wp_m_nextPair Y 1 (fun r14 M13 => ∃ n, wp_m_tree_80 (fun M19 v20 => ∃ n, wp_m_tree_111 (fun M24 v25 v26 => (¬ v25 = 2 → (∃ n, wp_m_tree_155 (fun M32 v33 v34 => (v34 = 0 → (post 4611686018427387904 M32)) ∧ (¬ v34 = 0 → (post v33 M32))) post n M24 v26 0 0)) ∧ (v25 = 2 → (∃ n, wp_m_tree_155 (fun M35 v36 v37 => (v37 = 0 → (post 4611686018427387904 M35)) ∧ (¬ v37 = 0 → (post v36 M35))) post n M24 v26 1 0))) post n M19 v20 0 0) post n M13 r14 0) := by
    intro Y t c1 fY mg n1 no
    exact nextPair_ok (FT'.fm fY) hm hb hf (FT'.cm fY cm) mg (ob := true) rfl (fun q nq => ⟨_, phase2 _ fin 2 Y t c1 0 _ rfl fY mg n1 no (fun i a b => absurd b (by omega)) (Or.inr ⟨q, rfl, nq⟩)⟩) (fun z => ⟨_, phase2 _ fin 2 Y t c1 0 _ rfl fY mg n1 no (fun i a b => absurd b (by omega)) (Or.inl ⟨rfl, z⟩)⟩)
  exact nextPair_ok (FT'.fm f0) hm hb hf (FT'.cm f0 cm) mg0 (ob := false) rfl (fun q nq => ⟨_, phase1 _ two 12 _ _ 0 _ rfl f0 mg0 (fun i hi => absurd hi (by omega)) (Or.inr ⟨q, rfl, nq⟩)⟩) (fun z => ⟨_, phase1 _ two 12 _ _ 0 _ rfl f0 mg0 (fun i hi => absurd hi (by omega)) (Or.inl ⟨rfl, z⟩)⟩)
