/-! PURE: which LINES can stand -/
theorem ri2 (M : ST) (f g : Nat → Int32) : ms_ring (ms_ring M f) g = ms_ring M g := sA_sA _ _ _ _
theorem rig (M : ST) (f : Nat → Int32) : m_ring (ms_ring M f) = f := gA_sA _ _ _
theorem ris (M : ST) : ms_ring M (m_ring M) = M := sA_self M 72
def cnt (f : Nat → Int32) : Nat := cn (fun l => decide (¬ f l = 0)) 12
theorem ringPass {M Y : ST} {d : Nat → Nat → Nat} {K a : Nat} {cs : Nat → Nat} {f0 : Nat → Int32} {K124 : ST → Int32 → Prop} {post : Int32 → ST → Prop} (fm : FM M Y) (hm : ML d K M) (cm : CM cs Y) (hb0 : ∀ l, l < 12 → bz (f0 l)) (hK : ∀ f l2, (∀ l, l < 12 → bz (f l)) → (∀ l, l < 12 → ¬ f l = 0 → Rch cs a l) → (∀ l, l < 12 → ¬ f0 l = 0 → ¬ f l = 0) → ((l2 = 0 ∧ (∀ l, l < 12 → f l = f0 l) ∧ ∀ k', k' < 144 → lpM M K k' → cs k' = 1 → f0 (k' / 12) = f0 (k' % 12)) ∨ (l2 = 1 ∧ cnt f0 < cnt f)) → K124 (ms_ring Y f) l2) : ∀ (m k : Nat) (f : Nat → Int32) (l2 : Int32), k + m = 144 → (∀ l, l < 12 → bz (f l)) → (∀ l, l < 12 → ¬ f l = 0 → Rch cs a l) → (∀ l, l < 12 → ¬ f0 l = 0 → ¬ f l = 0) → ((l2 = 0 ∧ (∀ l, l < 12 → f l = f0 l) ∧ ∀ k', k' < k → lpM M K k' → cs k' = 1 → f0 (k' / 12) = f0 (k' % 12)) ∨ (l2 = 1 ∧ cnt f0 < cnt f)) → wp_m_isRing_50 K124 post (m + 1) (ms_ring Y f) l2 (nI k) := by
  have hK12 := hm.1
  intro m
  induction m with
  | zero =>
    intro k f l2 hk hb hs hmo hl
    have : k = 144 := by omega
    subst this
    exact yes (by decide) (hK f l2 hb hs hmo hl)
  | succ m ih =>
    intro k f l2 hk hb hs hmo hl
    have k4 : k < 144 := by omega
    have vk : vp_in (nI k) 144 := vp_in_nI k4 (by decide)
    have va : vp_in (nI (k / 12)) 12 := vp_in_nI (by omega) (by decide)
    have vb : vp_in (nI (k % 12)) 12 := vp_in_nI (by omega) (by decide)
    have fmr : FM M (ms_ring Y f) := fm.sA (by decide) _
    obtain ⟨c1, c2⟩ := cm k k4
    have skip : (lpM M K k → cs k = 1 → f (k / 12) = f (k % 12)) → wp_m_isRing_50 K124 post (m + 1) (ms_ring Y f) l2 (nI k + 1) := by
      intro q
      rw [nI_1]
      refine ih (k + 1) f l2 (by omega) hb hs hmo ?_
      rcases hl with ⟨e1, e2, e3⟩ | e
      · refine Or.inl ⟨e1, e2, fun k' hk' lp c => ?_⟩
        by_cases y : k' = k
        · subst y
          have := q lp c
          rw [e2 _ (by omega), e2 _ (by omega)] at this
          exact this
        · exact e3 k' (by omega) lp c
      · exact Or.inr e
    refine nay (nI_ge (b := 144) k4 (by decide)) (mpair_ok fmr hm k4 (fun lp => ya2 ⟨vk, ?_⟩) (fun lp => no2 (skip (fun z => absurd z lp))))
    rw [nI_clamp (show k < 2 ^ 31 by omega), show m_pairs (ms_ring Y f) k = nI (cs k) from c1, r12 (show k < 2 ^ 31 by omega), d12 (show k < 2 ^ 31 by omega)]
    refine bn (fun c => skip (fun _ z => absurd (by rw [z]; rfl) c)) (fun c => ⟨va, vb, ?_⟩)
    have c : cs k = 1 := (nI_eq (b := 1) (by omega) (by decide)).mp c
    rw [rig, nI_clamp (show k / 12 < 2 ^ 31 by omega), nI_clamp (show k % 12 < 2 ^ 31 by omega)]
    refine bh (fun e => skip (fun _ _ => e)) (fun e => ⟨va, nm ⟨vb, nm ?_⟩⟩)
    rw [ri2, ri2, rig, nar1, nI_1]
    have l1 := lp.1
    have ck : cs (pai (k / 12) (k % 12)) = 1 := by rw [pai_k l1]; exact c
    have two : Rch cs a (k / 12) ∧ Rch cs a (k % 12) ∧ ((f (k / 12) = 0 ∧ ¬ f (k % 12) = 0) ∨ (¬ f (k / 12) = 0 ∧ f (k % 12) = 0)) := by
      rcases hb (k / 12) (by omega) with y | y
      · rcases hb (k % 12) (by omega) with z | z
        · exact absurd (y.trans z.symm) e
        · have nz : ¬ f (k % 12) = 0 := by rw [z]; decide
          have q := hs _ (by omega) nz
          exact ⟨q.st (by omega) (by omega) (by omega) (by rw [pai_c _ _ (by omega)]; exact ck), q, Or.inl ⟨y, nz⟩⟩
      · have nz : ¬ f (k / 12) = 0 := by rw [y]; decide
        have q := hs _ (by omega) nz
        rcases hb (k % 12) (by omega) with z | z
        · exact ⟨q, q.st (by omega) (by omega) (by omega) ck, Or.inr ⟨nz, z⟩⟩
        · exact absurd (y.trans z.symm) e
    have at' : ∀ l, upd (upd f (k / 12) 1) (k % 12) 1 l = if l = k / 12 ∨ l = k % 12 then 1 else f l := by
      intro l
      by_cases y : l = k % 12
      · subst y; rw [pk_us, if_pos (Or.inr rfl)]
      · rw [pk_un y]
        by_cases z : l = k / 12
        · subst z; rw [pk_us, if_pos (Or.inl rfl)]
        · rw [pk_un z, if_neg (by rintro (w | w); exact z w; exact y w)]
    have grow : ∀ l, ¬ f l = 0 → ¬ upd (upd f (k / 12) 1) (k % 12) 1 l = 0 := by
      intro l hl
      rw [at' l]
      split
      · decide
      · exact hl
    have up : cnt f < cnt (upd (upd f (k / 12) 1) (k % 12) 1) := by
      rcases two.2.2 with ⟨y, _⟩ | ⟨_, y⟩
      · exact cn_strict (j := k / 12) 12 (by omega) (fun i hi q => decide_eq_true (grow i (of_decide_eq_true q))) (decide_eq_false (fun q => q y)) (decide_eq_true (by rw [at', if_pos (Or.inl rfl)]; decide))
      · exact cn_strict (j := k % 12) 12 (by omega) (fun i hi q => decide_eq_true (grow i (of_decide_eq_true q))) (decide_eq_false (fun q => q y)) (decide_eq_true (by rw [at', if_pos (Or.inr rfl)]; decide))
    refine ih (k + 1) _ 1 (by omega) (fun l hl => ?_) (fun l hl q => ?_) (fun l hl q => grow l (hmo l hl q)) (Or.inr ⟨rfl, ?_⟩)
    · rw [at' l]
      split
      · exact Or.inr rfl
      · exact hb l hl
    · rw [at' l] at q
      by_cases y : l = k / 12 ∨ l = k % 12
      · rcases y with y | y
        · rw [y]; exact two.1
        · rw [y]; exact two.2.1
      · rw [if_neg y] at q
        exact hs l hl q
    · rcases hl with ⟨e1, e2, e3⟩ | e'
      · have : cnt f = cnt f0 := cn_congr 12 (fun i hi => by rw [e2 i hi])
        omega
      · omega
theorem misRing_ok {M Y : ST} {d : Nat → Nat → Nat} {K a : Nat} {r : List (Nat × Bool)} {post : Int32 → ST → Prop} (fm : FM M Y) (hm : ML d K M) (ok : OKP M K r) (cm : CM (cso r) Y) (ha : a < K) (oa : m_isOut M a = 0) (h1 : Rg M K (cso r) a → ∀ g, post 1 (ms_ring Y g)) (h0 : ¬ Rg M K (cso r) a → ∀ g, post 0 (ms_ring Y g)) : wp_m_isRing Y (nI a) post := by
  have hK := hm.1
  have a11 : (1 : Int32) &&& 1 = 1 := by decide
  have a01 : (0 : Int32) &&& 1 = 0 := by decide
  have a10 : (1 : Int32) &&& 0 = 0 := by decide
  have a00 : (0 : Int32) &&& 0 = 0 := by decide
  have el : ∀ f, m_lamps (ms_ring Y f) = nI K := fun f => (fm.1 16 (by decide)).trans hm.2.1
  have eo : ∀ f, m_isOut (ms_ring Y f) = m_isOut M := fun f => fm.out
  -- all, two
  have last : ∀ f, (∀ l, l < 12 → (¬ f l = 0 ↔ Rch (cso r) a l)) → ∃ n, wp_m_isRing_135 (fun M19 v20 v21 => (v21 = 0 → (post 0 M19)) ∧ (¬ v21 = 0 → ((¬ v20 = 0 → (post 0 M19)) ∧ (v20 = 0 → (post 1 M19))))) post n (ms_ring Y f) 1 1 0 := by
    intro f hf
    have go : ∀ (m l : Nat) (l3 l4 : Int32), l + m = K → ((l3 = 1 ∧ ∀ l', l' < l → m_isOut M l' = 0 → Rch (cso r) a l') ∨ (l3 = 0 ∧ ¬ ∀ l, l < K → m_isOut M l = 0 → Rch (cso r) a l)) → ((l4 = 1 ∧ ∀ l', l' < l → Rch (cso r) a l' → jc M K (cso r) 1 l' = 2) ∨ (l4 = 0 ∧ ¬ ∀ l, Rch (cso r) a l → jc M K (cso r) 1 l = 2)) → wp_m_isRing_135 (fun M19 v20 v21 => (v21 = 0 → (post 0 M19)) ∧ (¬ v21 = 0 → ((¬ v20 = 0 → (post 0 M19)) ∧ (v20 = 0 → (post 1 M19))))) post (m + 1) (ms_ring Y f) l3 l4 (nI l) := by
      intro m
      induction m with
      | zero =>
        intro l l3 l4 hl h3 h4
        have : l = K := by omega
        subst this
        refine yes (by rw [el]; exact nI_le (Nat.le_refl _) (by omega)) ?_
        rcases h4 with ⟨rfl, q⟩ | ⟨rfl, q⟩
        · refine ya2 ?_
          rcases h3 with ⟨rfl, w⟩ | ⟨rfl, w⟩
          · exact ya1 (h0 (fun z => z.2 w) f)
          · exact no1 (h1 ⟨fun l' hl' => q l' (hl'.lit ok ha oa).1 hl', w⟩ f)
        · exact no2 (h0 (fun z => q z.1) f)
      | succ m ih =>
        intro l l3 l4 hl h3 h4
        have v : vp_in (nI l) 12 := vp_in_nI (by omega) (by decide)
        have jl : jc M K (cso r) 1 l ≤ K := cn_le _ K
        have step : ∀ s0 : Int32, (((l3 &&& s0) = 1 ∧ ∀ l', l' < l + 1 → m_isOut M l' = 0 → Rch (cso r) a l') ∨ ((l3 &&& s0) = 0 ∧ ¬ ∀ l, l < K → m_isOut M l = 0 → Rch (cso r) a l)) → wp_m_isRing_170 (wp_m_isRing_135 (fun M19 v20 v21 => (v21 = 0 → (post 0 M19)) ∧ (¬ v21 = 0 → ((¬ v20 = 0 → (post 0 M19)) ∧ (v20 = 0 → (post 1 M19))))) post (m + 1)) post (ms_ring Y f) l4 (nI l) s0 l3 := by
          intro s0 hs0
          have good : (Rch (cso r) a l → jc M K (cso r) 1 l = 2) → wp_m_isRing_135 (fun M19 v20 v21 => (v21 = 0 → (post 0 M19)) ∧ (¬ v21 = 0 → ((¬ v20 = 0 → (post 0 M19)) ∧ (v20 = 0 → (post 1 M19))))) post (m + 1) (ms_ring Y f) (l3 &&& s0) (l4 &&& 1) (nI (l + 1)) := by
            intro g
            refine ih (l + 1) _ _ (by omega) hs0 ?_
            rcases h4 with ⟨rfl, q⟩ | ⟨rfl, q⟩
            · refine Or.inl ⟨a11, fun l' hl' => ?_⟩
              by_cases y : l' = l
              · subst y; exact g
              · exact q l' (by omega)
            · exact Or.inr ⟨a01, q⟩
          refine nm ⟨v, ?_⟩
          rw [rig, nI_clamp (show l < 2 ^ 31 by omega), nI_1]
          refine bh (fun c => nm (good (fun z => absurd c ((hf l (by omega)).mpr z)))) (fun c => joinedOf_ok (fm.sA (by decide) _) hm (fun k hk => cm k hk) (by omega) (bn (fun c2 => nm ?_) (fun c2 => nm (good (fun _ => (nI_eq (b := 2) (by omega) (by decide)).mp c2)))))
          refine ih (l + 1) _ _ (by omega) hs0 (Or.inr ⟨?_, fun z => c2 (by rw [z l ((hf l (by omega)).mp c)]; rfl)⟩)
          rcases h4 with ⟨rfl, q⟩ | ⟨rfl, q⟩
          · exact a10
          · exact a00
        have keep : (m_isOut M l = 0 → Rch (cso r) a l) → wp_m_isRing_165 (wp_m_isRing_135 (fun M19 v20 v21 => (v21 = 0 → (post 0 M19)) ∧ (¬ v21 = 0 → ((¬ v20 = 0 → (post 0 M19)) ∧ (v20 = 0 → (post 1 M19))))) post (m + 1)) post (ms_ring Y f) l4 (nI l) l3 := by
          intro g
          refine step 1 ?_
          rcases h3 with ⟨rfl, q⟩ | ⟨rfl, q⟩
          · refine Or.inl ⟨a11, fun l' hl' => ?_⟩
            by_cases y : l' = l
            · subst y; exact g
            · exact q l' (by omega)
          · exact Or.inr ⟨a01, q⟩
        refine nay (by rw [el]; exact nI_ge (by omega) (by omega)) ⟨v, ?_⟩
        rw [nI_clamp (show l < 2 ^ 31 by omega), eo, rig]
        refine bn (fun o => keep (fun z => absurd z o)) (fun o => ⟨v, bh (fun c => step 0 (Or.inr ⟨?_, fun z => absurd c ((hf l (by omega)).mpr (z l (by omega) o))⟩)) (fun c => keep (fun _ => (hf l (by omega)).mp c))⟩)
        rcases h3 with ⟨rfl, q⟩ | ⟨rfl, q⟩
        · exact a10
        · exact a00
    exact ⟨_, go K 0 1 1 (by omega) (Or.inl ⟨rfl, fun l' hl' => absurd hl' (by omega)⟩) (Or.inl ⟨rfl, fun l' hl' => absurd hl' (by omega)⟩)⟩
  -- passes
  have pass : ∀ (m : Nat) (f : Nat → Int32), 12 ≤ cnt f + m → (∀ l, l < 12 → bz (f l)) → ¬ f a = 0 → (∀ l, l < 12 → ¬ f l = 0 → Rch (cso r) a l) → wp_m_isRing_42 (fun M12 => ∃ n, wp_m_isRing_135 (fun M19 v20 v21 => (v21 = 0 → (post 0 M19)) ∧ (¬ v21 = 0 → ((¬ v20 = 0 → (post 0 M19)) ∧ (v20 = 0 → (post 1 M19))))) post n M12 1 1 0) post (m + 2) (ms_ring Y f) 1 := by
    have stop : ∀ (f f0 : Nat → Int32), (∀ l, l < 12 → bz (f l)) → ¬ f0 a = 0 → (∀ l, l < 12 → ¬ f l = 0 → Rch (cso r) a l) → (∀ l, l < 12 → f l = f0 l) → (∀ k', k' < 144 → lpM M K k' → cso r k' = 1 → f0 (k' / 12) = f0 (k' % 12)) → ∃ n, wp_m_isRing_135 (fun M19 v20 v21 => (v21 = 0 → (post 0 M19)) ∧ (¬ v21 = 0 → ((¬ v20 = 0 → (post 0 M19)) ∧ (v20 = 0 → (post 1 M19))))) post n (ms_ring Y f) 1 1 0 := by
      intro f f0 hb fa hs e cl
      refine last f (fun l hl => ⟨hs l hl, fun q => ?_⟩)
      refine q (fun x => ¬ f x = 0) (by rw [e a (by omega)]; exact fa) (fun x y hx hy sx hne c => ?_)
      have q2 := OKP_lp ok (show cso r (pai x y) ≠ 0 by rw [c]; omega)
      have := cl _ q2.1 q2.2 c
      rw [e x hx] at sx
      rw [e y hy]
      rcases pai_div hx hy hne with ⟨z1, z2, z3⟩ | ⟨z1, z2, z3⟩
      · rw [z2, z3] at this
        rw [← this]; exact sx
      · rw [z2, z3] at this
        rw [this]; exact sx
    intro m
    induction m with
    | zero =>
      intro f hc hb fa hs
      refine ya2 ⟨_, ringPass fm hm cm hb (fun f' l2 hb' hs' hmo hl => ?_) 144 0 f 0 (by omega) hb hs (fun l _ q => q) (Or.inl ⟨rfl, fun _ _ => rfl, fun k' hk' => absurd hk' (by omega)⟩)⟩
      rcases hl with ⟨rfl, e2, e3⟩ | ⟨rfl, e⟩
      · exact no2 (stop f' f hb' fa hs' e2 e3)
      · have : cnt f' ≤ 12 := cn_le _ 12
        omega
    | succ m ih =>
      intro f hc hb fa hs
      refine ya2 ⟨_, ringPass fm hm cm hb (fun f' l2 hb' hs' hmo hl => ?_) 144 0 f 0 (by omega) hb hs (fun l _ q => q) (Or.inl ⟨rfl, fun _ _ => rfl, fun k' hk' => absurd hk' (by omega)⟩)⟩
      rcases hl with ⟨rfl, e2, e3⟩ | ⟨rfl, e⟩
      · exact no2 (stop f' f hb' fa hs' e2 e3)
      · exact ih f' (by omega) hb' (hmo a (by omega) fa) hs'
  -- the start
  have init : ∀ (m i : Nat) (f : Nat → Int32), i + m = 12 → (∀ l, l < i → f l = if l = a then 1 else 0) → wp_m_isRing_12 (fun M5 => ∃ n, wp_m_isRing_42 (fun M12 => ∃ n, wp_m_isRing_135 (fun M19 v20 v21 => (v21 = 0 → (post 0 M19)) ∧ (¬ v21 = 0 → ((¬ v20 = 0 → (post 0 M19)) ∧ (v20 = 0 → (post 1 M19))))) post n M12 1 1 0) post n M5 1) post (m + 1) (ms_ring Y f) (nI a) (nI i) := by
    intro m
    induction m with
    | zero =>
      intro i f hi hf
      refine yes (nI_le (a := 12) (by omega) (by omega)) ⟨_, pass 12 f (by omega) (fun l hl => ?_) ?_ (fun l hl q => ?_)⟩
      · rw [hf l (by omega)]
        split
        · exact Or.inr rfl
        · exact Or.inl rfl
      · rw [hf a (by omega), if_pos rfl]; decide
      · rw [hf l (by omega)] at q
        by_cases y : l = a
        · subst y; exact fun S sa _ => sa
        · rw [if_neg y] at q; exact absurd rfl q
    | succ m ih =>
      intro i f hi hf
      have v : vp_in (nI i) 12 := vp_in_nI (by omega) (by decide)
      have nxt : ∀ w : Int32, w = (if i = a then 1 else 0) → wp_m_isRing_12 (fun M5 => ∃ n, wp_m_isRing_42 (fun M12 => ∃ n, wp_m_isRing_135 (fun M19 v20 v21 => (v21 = 0 → (post 0 M19)) ∧ (¬ v21 = 0 → ((¬ v20 = 0 → (post 0 M19)) ∧ (v20 = 0 → (post 1 M19))))) post n M12 1 1 0) post n M5 1) post (m + 1) (ms_ring Y (upd f i w)) (nI a) (nI (i + 1)) := by
        intro w hw
        refine ih (i + 1) _ (by omega) (fun l hl => ?_)
        by_cases y : l = i
        · subst y; rw [pk_us, hw]
        · rw [pk_un y]; exact hf l (by omega)
      refine nay (nI_ge (b := 12) (by omega) (by decide)) ?_
      rw [rig, ri2, ri2, nI_clamp (show i < 2 ^ 31 by omega), nar0, nar1, nI_1]
      refine bn (fun e => ⟨v, nm (nxt 0 ?_)⟩) (fun e => ⟨v, nm (nxt 1 ?_)⟩)
      · rw [if_neg (fun z => e (by rw [z]))]
      · rw [if_pos ((nI_eq (by omega) (by omega)).mp e)]
  have st := init 12 0 (m_ring Y) (by omega) (fun l hl => absurd hl (by omega))
  rw [ris] at st
  exact mlit_ok fm hm (by omega) (fun _ _ => ya1 ⟨_, st⟩) (fun q => absurd ⟨ha, oa⟩ q)
/-! what stands -/
def S1 (M : ST) (K : Nat) (cs : Nat → Nat) (x y : Nat) : Prop := x < y ∧ y < K ∧ m_isOut M x = 0 ∧ m_isOut M y = 0 ∧ cs (12 * x + y) = 0
def S2 (M : ST) (d : Nat → Nat → Nat) (K f : Nat) (nn : Int32) (cs : Nat → Nat) : Prop := ∃ t c1 c v, TM M d K cs f t c1 c ∧ VV M d K f t c1 c v ∧ ¬ v < nn.toInt64
def SA (M : ST) (K : Nat) (cs : Nat → Nat) (op x : Nat) : Prop := x < K ∧ m_isOut M x = 0 ∧ ((op = 3 ∧ fc M K cs x < 2) ∨ (op = 4 ∧ 2 < jc M K cs 1 x) ∨ (op = 5 ∧ Rg M K cs x))
def S6 (M : ST) (d : Nat → Nat → Nat) (K : Nat) (cs : Nat → Nat) (x y : Nat) : Prop := (x < K ∧ m_isOut M x = 0) ∧ (y < K ∧ m_isOut M y = 0) ∧ x ≠ y ∧ (twI M d K x = nI y ∨ twI M d K y = nI x) ∧ cs (pai x y) = 2
def Sd (M : ST) (d : Nat → Nat → Nat) (K f : Nat) (nn : Int32) (cs : Nat → Nat) (op : Nat) (a b : Int32) : Prop := (op = 1 ∧ ∃ x y, a = nI x ∧ b = nI y ∧ S1 M K cs x y) ∨ (op = 2 ∧ S2 M d K f nn cs) ∨ ((op = 3 ∨ op = 4 ∨ op = 5) ∧ ∃ x, a = nI x ∧ SA M K cs op x) ∨ (op = 6 ∧ ∃ x y, a = nI x ∧ b = nI y ∧ S6 M d K cs x y)
theorem S2_v {M : ST} {d : Nat → Nat → Nat} {K f : Nat} {nn : Int32} {cs t : Nat → Nat} {c1 c : Nat} {v : Int64} (tm : TM M d K cs f t c1 c) (vv : VV M d K f t c1 c v) : S2 M d K f nn cs ↔ ¬ v < nn.toInt64 := by
  constructor
  · rintro ⟨t', c1', c', v', tm', vv', h⟩
    obtain ⟨e1, e2, e3⟩ := TS_u tm tm'
    subst e1; subst e2
    rw [VV_u e3 vv vv']
    exact h
  · exact fun h => ⟨t, c1, c, v, tm, vv, h⟩
/-- the class ready to judge a LINE at a CASE -/
def XE (n : Nat) (M : ST) (d : Nat → Nat → Nat) (K : Nat) (r : List (Nat × Bool)) (X : ST) : Prop := LampK n K X M ∧ (∃ m p, RK M d K X m p) ∧ XA M K r X ∧ ∀ l, l < K → ∀ j, j < 32 → bt (x_Lamps_needs X l) j = mu0 M d K l j
theorem FG.xa {M : ST} {K : Nat} {r : List (Nat × Bool)} {X X' : ST} (s : FG X X') (h : XA M K r X) : XA M K r X' := by
  unfold XA at h ⊢
  rw [show x_Case_depth X' = _ from s.1 8 (by decide), show x_Case_isOver X' = _ from s.1 9 (by decide), show x_Case_joined X' = _ from s.2.2.1 34 (by decide), show x_Case_parted X' = _ from s.2.2.1 35 (by decide)]
  refine ⟨h.1, PSt_congr (fun i hi => ?_) h.2.1, h.2.2⟩
  rw [show x_Case_split X' = _ from s.2.2.1 36 (by decide), show x_Case_isSecond X' = _ from s.2.2.1 37 (by decide)]
  exact ⟨rfl, rfl⟩
theorem FG.xe {n : Nat} {M : ST} {d : Nat → Nat → Nat} {K : Nat} {r : List (Nat × Bool)} {X X' : ST} (s : FG X X') (h : XE n M d K r X) : XE n M d K r X' := by
  obtain ⟨h1, ⟨m, p, h2⟩, h3, h4⟩ := h
  refine ⟨FX.lamp s.fx h1, ⟨m, p, s.rk h2⟩, s.xa h3, ?_⟩
  rw [show x_Lamps_needs X' = _ from s.2.2.1 25 (by decide)]
  exact h4
theorem prices_ok {n K f : Nat} {M : ST} {d : Nat → Nat → Nat} {r : List (Nat × Bool)} {X : ST} {nn : Int32} {post : Int32 → ST → Prop} (hn : n ≤ 511) (hm : ML d K M) (hf : isF M K f) (h3 : 3 ≤ cn (lv M) K) (xe : XE n M d K r X) (h1 : S2 M d K f nn (cso r) → ∀ X', FG X X' → post 1 X') (h0 : ¬ S2 M d K f nn (cso r) → ∀ X', FG X X' → post 0 X') : wp_Judge_pricesStand X nn post := by
  obtain ⟨e1, ⟨m, p, e2⟩, e3, e4⟩ := xe
  refine grow_ok e1 (by omega) hm hf h3 e2 e3.cx (fun X1 t c1 c fg tm gr => sumvv_ok (FX.lamp fg.fx e1) hf tm gr (fun v vv => ?_))
  have q := S2_v (nn := nn) tm vv
  exact bh (fun z => h0 (fun w => q.mp w z) X1 fg) (fun z => h1 (q.mpr z) X1 fg)
theorem nI_subN (x y : Nat) : nI (x + y) - nI y = nI x := by
  rw [← nI_add]; exact Int32.add_sub_cancel _ _
theorem alone_ok {n K x op : Nat} {M : ST} {d : Nat → Nat → Nat} {r : List (Nat × Bool)} {X : ST} {post : Int32 → ST → Prop} (xe : XE n M d K r X) (hop : op = 3 ∨ op = 4 ∨ op = 5) (hx : x < K) (ox : m_isOut M x = 0) (h1 : SA M K (cso r) op x → post 1 X) (h0 : ¬ SA M K (cso r) op x → post 0 X) : wp_Judge_standsAlone X (nI op) (nI x) post := by
  obtain ⟨hk, _, xa, _⟩ := xe
  have hK := hk.1
  have hc := cn_le (lv M) K
  have ok := xa.2.2.1
  have v : vp_in (nI x) 12 := vp_in_nI (by omega) (by decide)
  have jl : ∀ w, jc M K (cso r) w x ≤ K := fun w => cn_le _ K
  rcases hop with rfl | rfl | rfl
  · refine yes rfl (liveCount_ok hk ⟨v, ?_⟩)
    rw [nI_clamp (show x < 2 ^ 31 by omega)]
    refine bc_ok hK ok (by omega) xa.2.2.2.2.1 (by omega) ?_
    have s := fc_sum (cs := cso r) hx ox
    rw [s, nI_pred, nI_subN]
    refine bh (fun c => h0 (fun z => ?_)) (fun c => h1 ⟨hx, ox, Or.inl ⟨rfl, ?_⟩⟩)
    · have := (nI_leI (a := 2) (by decide) (by omega)).mp c
      have := z.2.2
      omega
    · rcases Nat.lt_or_ge (fc M K (cso r) x) 2 with y | y
      · exact y
      · exact absurd (nI_le (a := 2) y (by omega)) c
  · refine nay (by decide) (yes rfl ⟨v, ?_⟩)
    rw [nI_clamp (show x < 2 ^ 31 by omega)]
    refine bc_ok hK ok (by omega) xa.2.2.2.1 (by omega) ?_
    have := jl 1
    refine bh (fun c => h0 (fun z => ?_)) (fun c => h1 ⟨hx, ox, Or.inr (Or.inl ⟨rfl, ?_⟩)⟩)
    · have := (nI_leI (b := 2) (by omega) (by decide)).mp c
      have := z.2.2
      omega
    · rcases Nat.lt_or_ge 2 (jc M K (cso r) 1 x) with y | y
      · exact y
      · exact absurd (nI_le (b := 2) y (by decide)) c
  · refine nay (by decide) (nay (by decide) (yes rfl (ringOf_ok xa.2.2.2.1 (by omega) (fun R hR => isRing_ok hk xa hx ox hR (fun q => ⟨Or.inr rfl, h1 ⟨hx, ox, Or.inr (Or.inr ⟨rfl, q⟩)⟩⟩) (fun q => ⟨Or.inl rfl, h0 (fun z => ?_)⟩)))))
    rcases z.2.2 with w | w | w
    · exact absurd w.1 (by decide)
    · exact absurd w.1 (by decide)
    · exact q w.2
