/-! PURE: the class's reckon() -/
theorem fillI_ok {X : ST} {k n : Nat} {v : Int32} {post : ST → Prop} (hn : n < 2 ^ 31) (h : ∀ f : Nat → Int32, (∀ i, i < n → f i = v) → post (ks_sA X k f)) : wp_arr_fillI X k n v post := by
  refine nm ?_
  have go : ∀ (m i : Nat) (f : Nat → Int32), i + m = n → (∀ j, j < i → f j = v) → wp_arr_fillI_5 k n (fun X3 => post X3) post (m + 1) (ks_sA X k f) v (nI i) (Int32.ofNat n) := by
    intro m
    induction m with
    | zero =>
      intro i f hi hf
      exact yes (nI_le (by omega) (by omega)) (h f (fun j hj => hf j (by omega)))
    | succ m ih =>
      intro i f hi hf
      refine nay (nI_ge (by omega) hn) ⟨vp_in_nI (by omega) hn, nm ?_⟩
      rw [nI_clamp (by omega), sA_sA, gA_sA, nI_1]
      refine ih (i + 1) _ (by omega) (fun j hj => ?_)
      by_cases e : j = i
      · subst e; exact pk_us
      · rw [pk_un e]; exact hf j (by omega)
  have := go n 0 (X.2.2.1 k) (by omega) (fun j hj => absurd hj (by omega))
  rw [sA_self] at this
  exact ⟨_, this⟩
/-- a row of WAYS as numbers -/
def Rp (f : Nat → Int32) (r : Nat → Nat) : Prop := ∀ b, b < 40 → f b = nI (r b)
def up1 (r : Nat → Nat) (b v : Nat) : Nat → Nat := fun x => if x = b then v else r x
theorem rp_up {f : Nat → Int32} {r : Nat → Nat} (h : Rp f r) (b v : Nat) : Rp (upd f b (nI v)) (up1 r b v) := by
  intro x hx
  unfold up1
  by_cases e : x = b
  · subst e; rw [pk_us, if_pos rfl]
  · rw [pk_un e, if_neg e]; exact h x hx
def BI (E : Nat → Nat → Nat → Prop) (a : Nat) (r : Nat → Nat) : Prop := (∀ b, b < 40 → r b ≤ 1000000 ∧ (r b = 1000000 ∨ ∃ k, Wlk E k b a (r b))) ∧ r a = 0
/-- in a pass, behind the first l LANES -/
def BP (M : ST) (l : Nat) (r0 r : Nat → Nat) : Prop := (∀ b, b < 40 → r b ≤ r0 b) ∧ ∀ u v s, EdN M l u v s → r u ≤ r0 v + s
theorem BI_up {M : ST} {L a b c s : Nat} {r : Nat → Nat} (h : BI (EdN M L) a r) (hb : b < 40) (hc : c < 40) (e : EdN M L b c s) (hl : r c + s < r b) : BI (EdN M L) a (up1 r b (r c + s)) := by
  obtain ⟨h1, h2⟩ := h
  refine ⟨fun x hx => ?_, ?_⟩
  · unfold up1
    by_cases ex : x = b
    · subst ex
      rw [if_pos rfl]
      have g := (h1 x hx).1
      refine ⟨by omega, Or.inr ?_⟩
      rcases (h1 c hc).2 with q | ⟨k, q⟩
      · omega
      · exact ⟨k + 1, c, s, r c, e, by omega, q⟩
    · rw [if_neg ex]; exact h1 x hx
  · unfold up1
    by_cases ex : a = b
    · subst ex; omega
    · rw [if_neg ex]; exact h2
theorem shorten_ok {X M : ST} {L l a q : Nat} {f : Nat → Int32} {r r0 : Nat → Nat} {post : Int32 → ST → Prop} (hX : ∀ i, i < L → x_Town_from X i = m_from M i ∧ x_Town_to X i = m_to M i ∧ x_Town_size X i = m_length M i) (hL : MLane M L) (hl : l < L) (hq : 100 ≤ q) (hf : Rp f r) (hB : BI (EdN M L) a r) (hP : BP M l r0 r) (ho : ¬ m_isOpen M l = 0) (h0 : BP M (l + 1) r0 r → post 0 (ks_sA X q f)) (h1 : ∀ f' r', Rp f' r' → BI (EdN M L) a r' → BP M (l + 1) r0 r' → post 1 (ks_sA X q f')) : wp_Town_shorten (ks_sA X q f) q 40 (nI l) post := by
  obtain ⟨u, v, s, e1, e2, e3, hu, hv, huv, hs, hs2, -⟩ := hL.2.2 l hl
  have hL1 := hL.1
  obtain ⟨x1, x2, x3⟩ := hX l hl
  have vl : vp_in (nI l) 100 := vp_in_nI (by omega) (by decide)
  have g1 : x_Town_from (ks_sA X q f) l = nI u := by
    show ks_up X.2.2.1 q f 15 l = _
    rw [ks_up_ne _ _ (by omega)]
    exact x1.trans e1
  have g2 : x_Town_to (ks_sA X q f) l = nI v := by
    show ks_up X.2.2.1 q f 16 l = _
    rw [ks_up_ne _ _ (by omega)]
    exact x2.trans e2
  have g3 : x_Town_size (ks_sA X q f) l = nI s := by
    show ks_up X.2.2.1 q f 17 l = _
    rw [ks_up_ne _ _ (by omega)]
    exact x3.trans e3
  have E1 : EdN M L u v s := ⟨⟨hu, hv, hs, hs2⟩, l, hl, ho, e3, Or.inl ⟨e1, e2⟩⟩
  have E2 : EdN M L v u s := ⟨⟨hv, hu, hs, hs2⟩, l, hl, ho, e3, Or.inr ⟨e1, e2⟩⟩
  -- what the LANE l asks for
  have ext : ∀ r' : Nat → Nat, (∀ b, b < 40 → r' b ≤ r b) → r' u ≤ r v + s → r' v ≤ r u + s → BP M (l + 1) r0 r' := by
    intro r' hle hu' hv'
    refine ⟨fun b hb => Nat.le_trans (hle b hb) (hP.1 b hb), fun x y t e => ?_⟩
    obtain ⟨⟨z1, z2, z3, z4⟩, j, j1, j2, j3, j4⟩ := e
    by_cases ej : j = l
    · subst ej
      have est : s = t := (nI_eq (by omega) (by omega)).mp (e3.symm.trans j3)
      subst est
      have p1 := hP.1 u hu
      have p2 := hP.1 v hv
      rcases j4 with ⟨q1, q2⟩ | ⟨q1, q2⟩
      · have a1 : u = x := (nI_eq (by omega) (by omega)).mp (e1.symm.trans q1)
        have a2 : v = y := (nI_eq (by omega) (by omega)).mp (e2.symm.trans q2)
        subst a1; subst a2; omega
      · have a1 : u = y := (nI_eq (by omega) (by omega)).mp (e1.symm.trans q1)
        have a2 : v = x := (nI_eq (by omega) (by omega)).mp (e2.symm.trans q2)
        subst a1; subst a2; omega
    · have := hP.2 x y t ⟨⟨z1, z2, z3, z4⟩, j, by omega, j2, j3, j4⟩
      have := hle x z1
      omega
  have bu := (hB.1 u hu).1
  have bv := (hB.1 v hv).1
  unfold wp_Town_shorten
  rw [nI_clamp (by omega), g1, g2, g3]
  refine ⟨vl, nm ⟨vl, nm ?_⟩⟩
  rw [nI_clamp (by omega), nI_clamp (by omega), gA_sA, hf u hu, hf v hv, nI_add, nI_add]
  refine ⟨vp_in_nI hu (by decide), vl, vp_in_nI hv (by decide), bh (fun c => ⟨vp_in_nI hv (by decide), vl, vp_in_nI hu (by decide), bh (fun c2 => h0 ?_) (fun c2 => ⟨vp_in_nI hv (by decide), vl, vp_in_nI hu (by decide), nm ?_⟩)⟩) (fun c => ⟨vp_in_nI hu (by decide), vl, vp_in_nI hv (by decide), nm ?_⟩)⟩
  · rw [nI_leI (by omega) (by omega)] at c c2
    exact ext r (fun b hb => Nat.le_refl _) c2 c
  · rw [nI_leI (by omega) (by omega)] at c c2
    rw [sA_sA]
    refine h1 _ _ (rp_up hf u (r v + s)) (BI_up hB hu hv E1 (by omega)) (ext _ (fun b hb => ?_) ?_ ?_)
    · unfold up1; split
      · next e => subst e; omega
      · exact Nat.le_refl _
    · unfold up1; rw [if_pos rfl]; exact Nat.le_refl _
    · unfold up1; rw [if_neg (Ne.symm huv)]; exact c
  · rw [nI_leI (by omega) (by omega)] at c
    rw [sA_sA]
    refine h1 _ _ (rp_up hf v (r u + s)) (BI_up hB hv hu E2 (by omega)) (ext _ (fun b hb => ?_) ?_ ?_)
    · unfold up1; split
      · next e => subst e; omega
      · exact Nat.le_refl _
    · unfold up1; rw [if_neg huv]; omega
    · unfold up1; rw [if_pos rfl]; exact Nat.le_refl _
/-- what the class's LANES are to the model's -/
def XL (X M : ST) (L : Nat) : Prop := MLane M L ∧ x_Town_count X = nI L ∧ ∀ i, i < L → (x_Town_from X i = m_from M i ∧ x_Town_to X i = m_to M i ∧ x_Town_size X i = m_length M i) ∧ x_Town_isOpen X i = m_isOpen M i
theorem ILane.xl {X M : ST} (h : ILane X M) : ∃ L, XL X M L := by
  obtain ⟨L, h1, h2, h3, h4⟩ := h
  exact ⟨L, ⟨h1, h3, fun i hi => (h4 i hi).2⟩, h2, fun i hi => ⟨⟨(h4 i hi).1.1, (h4 i hi).1.2.1, (h4 i hi).1.2.2.1⟩, (h4 i hi).1.2.2.2⟩⟩
theorem pass_ok {X M : ST} {L a q p : Nat} {f : Nat → Int32} {r0 : Nat → Nat} {K : ST → Int32 → Int32 → Prop} {post : ST → Prop} (hX : XL X M L) (hq : 100 ≤ q) (hf : Rp f r0) (hB : BI (EdN M L) a r0) (h : ∀ f' r' c, Rp f' r' → BI (EdN M L) a r' → BP M L r0 r' → (c = 1 ∨ (c = 0 ∧ BP M L r' r')) → K (ks_sA X q f') c (nI p)) : ∃ n, wp_Town_reckon_31 q 40 K post n (ks_sA X q f) 0 (nI p) 0 := by
  obtain ⟨hL, hc, hx⟩ := hX
  have hL1 := hL.1
  have go : ∀ (m l : Nat) (f : Nat → Int32) (r : Nat → Nat) (c : Int32), l + m = L → Rp f r → BI (EdN M L) a r → BP M l r0 r → (c = 1 ∨ (c = 0 ∧ r = r0)) → wp_Town_reckon_31 q 40 K post (m + 1) (ks_sA X q f) c (nI p) (nI l) := by
    intro m
    induction m with
    | zero =>
      intro l f r c hl hf hB hP hcc
      have : l = L := by omega
      subst this
      refine yes ?_ (h f r c hf hB hP (hcc.imp id (fun ⟨q1, q2⟩ => ⟨q1, by rw [q2] at hP ⊢; exact hP⟩)))
      show x_Town_count X ≤ _
      rw [hc]
      exact nI_le (Nat.le_refl _) (by omega)
    | succ m ih =>
      intro l f r c hl hf hB hP hcc
      refine nay ?_ ⟨vp_in_nI (by omega) (by decide), ?_⟩
      · show ¬ x_Town_count X ≤ _
        rw [hc]
        exact nI_ge (by omega) (by omega)
      have eo : x_Town_isOpen (ks_sA X q f) l = m_isOpen M l := by
        show ks_up X.2.2.1 q f 18 l = _
        rw [ks_up_ne _ _ (by omega)]
        exact (hx l (by omega)).2
      rw [nI_clamp (by omega), eo, nI_1]
      refine bh (fun o => ?_) (fun o => ?_)
      · refine ih (l + 1) f r c (by omega) hf hB ⟨hP.1, fun x y t e => ?_⟩ hcc
        obtain ⟨z, j, j1, j2, j3, j4⟩ := e
        by_cases ej : j = l
        · subst ej; exact absurd o j2
        · exact hP.2 x y t ⟨z, j, by omega, j2, j3, j4⟩
      · refine shorten_ok (fun i hi => (hx i hi).1) hL (by omega) hq hf hB hP o (fun hP' => ⟨fun _ => ?_, fun k => absurd rfl k⟩) (fun f' r' hf' hB' hP' => ⟨fun k => absurd k (by decide), fun _ => ?_⟩)
        · exact ih (l + 1) f r c (by omega) hf hB hP' hcc
        · exact ih (l + 1) f' r' 1 (by omega) hf' hB' hP' (Or.inl rfl)
  exact ⟨_, go L 0 f r0 0 (by omega) hf hB ⟨fun b _ => Nat.le_refl _, fun u v s e => by obtain ⟨-, j, hj, -⟩ := e; exact absurd hj (by omega)⟩ (Or.inr ⟨rfl, rfl⟩)⟩
theorem relaxed {M : ST} {L a : Nat} {r : Nat → Nat} (hB : BI (EdN M L) a r) (hP : BP M L r r) : ∀ (k b n : Nat), Wlk (EdN M L) k b a n → r b ≤ n
  | 0, b, n, h => by rw [h.1, h.2, hB.2]; exact Nat.le_refl _
  | k + 1, b, n, h => by
    obtain ⟨c, s, t, e, rfl, h2⟩ := h
    have := relaxed hB hP k c t h2
    have := hP.2 b c s e
    omega
theorem reckon_ok {X M : ST} {L a : Nat} {d : Nat → Nat → Nat} {post : ST → Prop} (hX : XL X M L) (hd : IsD (Edg M) d) (ha : a < 40) (h : ∀ f : Nat → Int32, (∀ b, b < 40 → f b = nI (cv (d a b))) → post (ks_sA X (a + 100) f)) : wp_Town_reckon X (a + 100) 40 (nI a) post := by
  have hEE : EdN M L = Edg M := funext fun u => funext fun v => funext fun s => propext (EdN_Edg hX.1)
  have hE := GE_Edg M
  refine fillI_ok (by decide) (fun f hf => ⟨vp_in_nI ha (by decide), nm ?_⟩)
  rw [gA_sA, sA_sA, nI_clamp (by omega)]
  -- how it ends
  have fin : ∀ (f : Nat → Int32) (r : Nat → Nat), Rp f r → BI (EdN M L) a r → (∀ k b n, k ≤ 39 → Wlk (EdN M L) k b a n → r b ≤ n) → post (ks_sA X (a + 100) f) := by
    intro f r hf hB hS
    refine h f (fun b hb => ?_)
    rw [hf b hb]
    congr 1
    rw [hEE] at hB hS
    have sy := d_sym hE hd ha hb
    unfold cv
    by_cases e : d a b = FARN
    · rw [if_pos e]
      rcases (hB.1 b hb).2 with q | ⟨k, q⟩
      · exact q
      · have := d_le hd hb q
        have := (hB.1 b hb).1
        have hF : FARN = 1000000000 := rfl
        omega
    · rw [if_neg e]
      rw [sy] at e ⊢
      obtain ⟨k, k1, k2⟩ := short39 hE hd hb ha e
      have q1 := hS k b _ k1 k2
      have q3 := d_39000 hE hd hb ha e
      rcases (hB.1 b hb).2 with q | ⟨k, q⟩
      · omega
      · have := d_le hd hb q
        omega
  have go : ∀ (m p : Nat) (f : Nat → Int32) (r : Nat → Nat) (c : Int32), p + m = 40 → Rp f r → BI (EdN M L) a r → (∀ k b n, k ≤ p → Wlk (EdN M L) k b a n → r b ≤ n) → (c = 1 ∨ (c = 0 ∧ BP M L r r)) → wp_Town_reckon_15 (a + 100) 40 (fun X9 => post X9) post (m + 1) (ks_sA X (a + 100) f) c (nI p) := by
    intro m
    induction m with
    | zero =>
      intro p f r c hp hf hB hS hc
      have : p = 40 := by omega
      subst this
      have hK : post (ks_sA X (a + 100) f) := fin f r hf hB (fun k b n hk w => hS k b n (by omega) w)
      exact bh (fun _ => hK) (fun _ => yes (nI_le (Nat.le_refl 40) (by decide)) hK)
    | succ m ih =>
      intro p f r c hp hf hB hS hc
      rcases hc with rfl | ⟨rfl, hP⟩
      · refine ya2 (nay (nI_ge (b := 40) (by omega) (by decide)) (pass_ok hX (by omega) hf hB (fun f' r' c' hf' hB' hP' hc' => ?_)))
        rw [nI_1]
        refine ih (p + 1) f' r' c' (by omega) hf' hB' (fun k b n hk w => ?_) hc'
        match k, w with
        | 0, w => rw [w.1, w.2, hB'.2]; exact Nat.le_refl _
        | k + 1, w =>
          obtain ⟨x, s, t, e, rfl, h2⟩ := w
          have := hS k x t (by omega) h2
          have := hP'.2 b x s e
          omega
      · exact no2 (fin f r hf hB (fun k b n _ w => relaxed hB hP k b n w))
  have hu : up1 (fun _ => 1000000) a 0 a = 0 := if_pos rfl
  refine ⟨_, go 40 0 _ (up1 (fun _ => 1000000) a 0) 1 (by omega) (rp_up (f := f) (r := fun _ => 1000000) (fun b hb => hf b hb) a 0) ⟨fun b hb => ?_, hu⟩ (fun k b n hk w => ?_) (Or.inl rfl)⟩
  · by_cases e : b = a
    · subst e
      rw [hu]
      exact ⟨by omega, Or.inr ⟨0, rfl, rfl⟩⟩
    · have : up1 (fun _ => 1000000) a 0 b = 1000000 := if_neg e
      rw [this]
      exact ⟨Nat.le_refl _, Or.inl rfl⟩
  · have : k = 0 := by omega
    subst this
    rw [w.1, w.2, hu]
    exact Nat.le_refl _
