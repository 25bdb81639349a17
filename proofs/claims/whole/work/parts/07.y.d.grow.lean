/-! PURE: the class grows THE TREE -/
abbrev FG : ST → ST → Prop := Fe [11, 12] [1] [39, 40] []
theorem FG.fx {X X' : ST} (s : FG X X') : FX X X' := s.up (fun k hk => by simp only [List.mem_cons, List.not_mem_nil, or_false] at hk ⊢; omega) (fun k hk => hk) (fun k hk => by simp only [List.mem_cons, List.not_mem_nil, or_false] at hk ⊢; omega) (fun k hk => absurd hk List.not_mem_nil)
theorem FG.rk {M : ST} {d : Nat → Nat → Nat} {K m : Nat} {X X' : ST} {p : Nat → Nat} (s : FG X X') (h : RK M d K X m p) : RK M d K X' m p := by
  unfold RK at h ⊢
  rw [show x_Tree_pairs X' = _ from s.1 10 (by decide), show x_Tree_ranked X' = _ from s.2.2.2 38 (by decide)]
  exact h
/-- the CASE in the class's sets -/
def CX (cs : Nat → Nat) (X : ST) : Prop := ∀ k, k < 144 → k / 12 < k % 12 → bt (x_Case_joined X (k / 12)) (k % 12) = decide (cs k = 1) ∧ bt (x_Case_parted X (k / 12)) (k % 12) = decide (cs k = 2)
theorem FG.cx {cs : Nat → Nat} {X X' : ST} (s : FG X X') (h : CX cs X) : CX cs X' := by
  unfold CX at h ⊢
  rw [show x_Case_joined X' = _ from s.2.2.1 34 (by decide), show x_Case_parted X' = _ from s.2.2.1 35 (by decide)]
  exact h
def psum (pv : Nat → Int) (t : Nat → Nat) : Nat → Int
  | 0 => 0
  | c + 1 => psum pv t c + pv (t c)
theorem psum_s (pv : Nat → Int) (t : Nat → Nat) (c : Nat) : psum pv t (c + 1) = psum pv t c + pv (t c) := rfl
theorem psum_congr {pv : Nat → Int} {t t' : Nat → Nat} : ∀ c, (∀ i, i < c → t i = t' i) → psum pv t c = psum pv t' c
  | 0, _ => rfl
  | c + 1, h => by rw [psum_s, psum_s, psum_congr c (fun i hi => h i (by omega)), h c (by omega)]
/-- THE TREE as far as it is grown in the class -/
def GR (M : ST) (d : Nat → Nat → Nat) (t : Nat → Nat) (c cf : Nat) (X : ST) : Prop := x_Tree_takenCount X = nI c ∧ x_Tree_takenOfFirst X = nI cf ∧ (∀ i, i < c → x_Tree_takenPairs X i = nI (kcode (t i))) ∧ x_Tree_sum X = oL (psum (pvM M d) t c) ∧ ∀ a, a < 12 → ∀ b, b < 32 → bt (x_Tree_hung X a) b = decide (b < 12 ∧ lab t c a = lab t c b)
theorem hung2 (X : ST) (f g : Nat → Int32) : xs_Tree_hung (xs_Tree_hung X f) g = xs_Tree_hung X g := sA_sA _ _ _ _
theorem hungg (X : ST) (f : Nat → Int32) : x_Tree_hung (xs_Tree_hung X f) = f := gA_sA _ _ _
theorem hungs (X : ST) : xs_Tree_hung X (x_Tree_hung X) = X := sA_self X 40
theorem take72_ok {X : ST} {tg : Int32} {post : ST → Prop} (h : ∀ g, (∀ l, l < 12 → g l = if bt tg l = true then tg else x_Tree_hung X l) → post (xs_Tree_hung X g)) : ∃ n, wp_Tree_take_72 (fun X14 => post X14) post n X tg 0 := by
  have go : ∀ (m i : Nat) (g : Nat → Int32), i + m = 12 → (∀ l, l < i → g l = if bt tg l = true then tg else x_Tree_hung X l) → (∀ l, i ≤ l → l < 12 → g l = x_Tree_hung X l) → wp_Tree_take_72 (fun X14 => post X14) post (m + 1) (xs_Tree_hung X g) tg (nI i) := by
    intro m
    induction m with
    | zero =>
      intro i g hi h1 h2
      exact yes (nI_le (a := 12) (by omega) (by omega)) (h g (fun l hl => h1 l (by omega)))
    | succ m ih =>
      intro i g hi h1 h2
      refine nay (nI_ge (b := 12) (by omega) (by decide)) (isIn_ok (by omega) (fun b => ya2 ⟨vp_in_nI (by omega) (by decide), nm ?_⟩) (fun b => no2 ?_))
      · rw [hung2, hungg, nI_clamp (show i < 2 ^ 31 by omega), nI_1]
        refine ih (i + 1) _ (by omega) (fun l hl => ?_) (fun l a c => ?_)
        · by_cases y : l = i
          · subst y; rw [pk_us, if_pos b]
          · rw [pk_un y]; exact h1 l (by omega)
        · rw [pk_un (by omega)]; exact h2 l (by omega) c
      · rw [nI_1]
        refine ih (i + 1) g (by omega) (fun l hl => ?_) (fun l a c => h2 l (by omega) c)
        by_cases y : l = i
        · subst y; rw [h2 l (Nat.le_refl _) (by omega), if_neg (by rw [b]; decide)]
        · exact h1 l (by omega)
  have st := go 12 0 (x_Tree_hung X) (by omega) (fun l hl => absurd hl (by omega)) (fun l _ _ => rfl)
  rw [hungs] at st
  exact ⟨_, st⟩
theorem take_ok {M : ST} {d : Nat → Nat → Nat} {K m c cf i : Nat} {X : ST} {p t : Nat → Nat} {post : ST → Prop} (hm : ML d K M) (hb : PB M K) (rk : RK M d K X m p) (hi : i < m) (hw : wL M d (p i / 12) (p i % 12) ≠ FARN) (gr : GR M d t c cf X) (hc : c < 12) (hp : ∀ X', FG X X' → GR M d (upn t c (p i)) (c + 1) cf X' → post X') : wp_Tree_take X (nI i) post := by
  have hK := hm.1
  obtain ⟨r1, r2, r3, r4, r5⟩ := id rk
  obtain ⟨k1, k2, k3⟩ := r3 i hi
  obtain ⟨g1, g2, g3, g4, g5⟩ := gr
  have l1 := k3.1
  have l2 := k3.2.1
  have up : ∀ j, j < c → t j = upn t c (p i) j := fun j hj => (upn_n (by omega)).symm
  refine pairAt_ok (by omega) k2 k1 ?_
  rw [g1]
  refine nay (nI_ge (b := 12) hc (by decide)) ⟨vp_in_nI hc (by decide), nm (nm ?_)⟩
  rw [nI_clamp (show c < 2 ^ 31 by omega)]
  generalize hY : xs_Tree_takenCount _ _ = Y
  have fY : FG X Y := by
    rw [← hY]
    exact ((Fe.rf X).sA (by decide) _).sI (by decide) _
  have y1 : x_Tree_takenCount Y = nI (c + 1) := by
    rw [← hY]
    show x_Tree_takenCount X + 1 = _
    rw [g1, nI_1]
  have y2 : x_Tree_takenPairs Y = upd (x_Tree_takenPairs X) c (nI (kcode (p i))) := by rw [← hY]; exact gA_sA _ _ _
  have y3 : x_Tree_hung Y = x_Tree_hung X := by rw [← hY]; rfl
  have y4 : x_Tree_sum Y = x_Tree_sum X := by rw [← hY]
  have y5 : x_Tree_takenOfFirst Y = x_Tree_takenOfFirst X := by rw [← hY]; rfl
  clear hY
  have kY : x_Tree_ranked Y i = oL (key M d (p i)) := by rw [show x_Tree_ranked Y = _ from fY.2.2.2 38 (by decide)]; exact k1
  have pk : pkU M d (p i) = pvM M d (p i) := if_neg hw
  refine pricedAt_ok hm hb (by omega) k2 k3 kY (nm (lesser_ok k2 ⟨vp_in_nI (by omega) (by decide), greater_ok k2 ⟨vp_in_nI (by omega) (by decide), nm ?_⟩⟩))
  rw [nI_clamp (show p i / 12 < 2 ^ 31 by omega), nI_clamp (show p i % 12 < 2 ^ 31 by omega)]
  show ∃ n, wp_Tree_take_72 (fun X14 => post X14) post n (xs_Tree_sum Y (x_Tree_sum Y + oL (pkU M d (p i)))) (x_Tree_hung Y (p i / 12) ||| x_Tree_hung Y (p i % 12)) 0
  refine take72_ok (fun g hg => hp _ ((fY.sJ (by decide) _).sA (by decide) _) ⟨y1, y5.trans g2, fun j hj => ?_, ?_, fun a ha b hb => ?_⟩)
  · show x_Tree_takenPairs Y j = _
    rw [y2]
    by_cases y : j = c
    · subst y; rw [pk_us, upn_s]
    · rw [pk_un y, upn_n y]; exact g3 j (by omega)
  · show x_Tree_sum Y + oL (pkU M d (p i)) = _
    rw [y4, g4, pk, oL_add, psum_s, upn_s, psum_congr c up]
  · rw [hungg, hg a ha]
    have hA : bt (x_Tree_hung Y (p i / 12) ||| x_Tree_hung Y (p i % 12)) a = true ↔ (lab t c (p i / 12) = lab t c a ∨ lab t c (p i % 12) = lab t c a) := by
      rw [b_or, y3, g5 _ (by omega) a (by omega), g5 _ (by omega) a (by omega), Bool.or_eq_true, decide_eq_true_iff, decide_eq_true_iff]
      omega
    have hB : bt (x_Tree_hung Y (p i / 12) ||| x_Tree_hung Y (p i % 12)) b = true ↔ b < 12 ∧ (lab t c (p i / 12) = lab t c b ∨ lab t c (p i % 12) = lab t c b) := by
      rw [b_or, y3, g5 _ (by omega) b hb, g5 _ (by omega) b hb, Bool.or_eq_true, decide_eq_true_iff, decide_eq_true_iff]
      omega
    have key : (lab (upn t c (p i)) (c + 1) a = lab (upn t c (p i)) (c + 1) b) ↔ (lab t c a = lab t c b ∨ ((lab t c a = lab t c (p i / 12) ∨ lab t c a = lab t c (p i % 12)) ∧ (lab t c b = lab t c (p i / 12) ∨ lab t c b = lab t c (p i % 12)))) := by
      rw [lab_iff, upn_s]
      simp only [← lab_congr c up]
    rw [Bool.eq_iff_iff, decide_eq_true_iff, key]
    split
    · next q =>
      rw [hB]
      have := hA.mp q
      omega
    · next q =>
      have : ¬ (lab t c (p i / 12) = lab t c a ∨ lab t c (p i % 12) = lab t c a) := fun z => q (hA.mpr z)
      show bt (x_Tree_hung Y a) b = true ↔ _
      rw [y3, g5 a ha b hb, decide_eq_true_iff]
      omega
theorem mayTake_ok {M : ST} {d : Nat → Nat → Nat} {K m i : Nat} {cs : Nat → Nat} {X : ST} {p : Nat → Nat} {post : Int32 → ST → Prop} (hm : ML d K M) (hb : PB M K) (rk : RK M d K X m p) (cx : CX cs X) (hi : i < m) {o : Int32} {oj : Bool} (ho : o = if oj = true then 1 else 0) (h1 : (cs (p i) = 1 ↔ oj = true) → elM M d K cs (p i) → post 1 X) (h0 : ¬ ((cs (p i) = 1 ↔ oj = true) ∧ elM M d K cs (p i)) → post 0 X) : wp_Tree_mayTake X (nI i) o post := by
  have hK := hm.1
  obtain ⟨r1, r2, r3, r4, r5⟩ := id rk
  obtain ⟨k1, k2, k3⟩ := r3 i hi
  have l1 := k3.1
  have l2 := k3.2.1
  obtain ⟨c1, c2⟩ := cx (p i) k2 l1
  have rest : (cs (p i) = 1 ↔ oj = true) → vp_in (nI (p i / 12)) 12 ∧ (wp_LR_isIn X (x_Case_parted X (p i / 12)) (nI (p i % 12)) (fun r12 X11 => (¬ r12 = 0 → (post 0 X11)) ∧ (r12 = 0 → (wp_Tree_pricedAt X11 (nI i) (fun r14 X13 => (r14 = 1099511627776 → (post 0 X13)) ∧ (¬ r14 = 1099511627776 → (post 1 X13))))))) := by
    intro q
    refine ⟨vp_in_nI (by omega) (by decide), ?_⟩
    refine isIn_ok (by omega) (fun b => ya1 (h0 (fun z => ?_))) (fun b => no1 (pricedAt_ok hm hb (by omega) k2 k3 k1 ?_))
    · rw [c2] at b
      exact z.2.2.2.1 (of_decide_eq_true b)
    · rw [c2] at b
      have n2 := of_decide_eq_false b
      have e40 : (1099511627776 : Int64) = oL 1099511627776 := by decide +kernel
      rw [e40]
      by_cases f : wL M d (p i / 12) (p i % 12) = FARN
      · refine yes ?_ (h0 (fun z => z.2.2.2.2 f))
        unfold pkU
        rw [if_pos f]
      · have pb := pv_b hm hb k3 f
        refine nay (fun z => ?_) (h1 q ⟨k2, k3, n2, f⟩)
        unfold pkU at z
        rw [if_neg f] at z
        have := (oL_eq (by omega) (by omega) (by omega) (by omega)).mp z
        omega
  refine pairAt_ok (by omega) k2 k1 (lesser_ok k2 (pairAt_ok (by omega) k2 k1 (greater_ok k2 ⟨vp_in_nI (by omega) (by decide), ?_⟩)))
  rw [nI_clamp (show p i / 12 < 2 ^ 31 by omega)]
  refine isIn_ok (by omega) (fun b => ?_) (fun b => ?_)
  · rw [c1] at b
    have b := of_decide_eq_true b
    rcases oj with _ | _
    · refine nay' (by rw [ho]; decide) (h0 (fun z => ?_))
      exact absurd (z.1.mp b) (by decide)
    · exact yes' (by rw [ho]; rfl) (rest ⟨fun _ => rfl, fun _ => b⟩)
  · rw [c1] at b
    have b := of_decide_eq_false b
    rcases oj with _ | _
    · exact yes' (by rw [ho]; rfl) (rest ⟨fun z => absurd z b, fun z => absurd z (by decide)⟩)
    · refine nay' (by rw [ho]; decide) (h0 (fun z => b (z.1.mpr rfl)))
theorem lab_le {t : Nat → Nat} {x y i : Nat} (h : lab t i x = lab t i y) : ∀ m, lab t (i + m) x = lab t (i + m) y
  | 0 => h
  | m + 1 => lab_m (lab_le h m)
theorem lab_in {t : Nat → Nat} {c j : Nat} (hj : j < c) : lab t c (t j / 12) = lab t c (t j % 12) := by
  obtain ⟨m, rfl⟩ : ∃ m, c = j + 1 + m := ⟨c - (j + 1), by omega⟩
  exact lab_le lab_t m
theorem RK.inj {M : ST} {d : Nat → Nat → Nat} {K m : Nat} {X : ST} {p : Nat → Nat} (rk : RK M d K X m p) {i j : Nat} (hi : i < m) (hj : j < m) (e : p i = p j) : i = j := by
  rcases Nat.lt_trichotomy i j with y | y | y
  · have := rk.2.2.2.1 i j y hj; rw [e] at this; omega
  · exact y
  · have := rk.2.2.2.1 j i y hi; rw [e] at this; omega
theorem Nx_upn {el : Nat → Prop} {jr : Nat → Nat} {pv : Nat → Int} {f c k : Nat} {o : Bool} {t : Nat → Nat} {j : Nat} (hj : j < c) (h : Nx el jr pv f o t j (t j)) : Nx el jr pv f o (upn t c k) j (upn t c k j) := by
  rw [upn_n (by omega)]
  exact Nx_congr (fun i hi => (upn_n (by omega)).symm) h
theorem Nx_upc {el : Nat → Prop} {jr : Nat → Nat} {pv : Nat → Int} {f c k : Nat} {o : Bool} {t : Nat → Nat} (h : Nx el jr pv f o t c k) : Nx el jr pv f o (upn t c k) c (upn t c k c) := by
  rw [upn_s]
  exact Nx_congr (fun i hi => (upn_n (by omega)).symm) h
theorem takeOthers_ok {n : Nat} {M : ST} {d : Nat → Nat → Nat} {K m f : Nat} {cs : Nat → Nat} {X0 X : ST} {p : Nat → Nat} {t : Nat → Nat} {c : Nat} {post : ST → Prop} (hk : LampK n K X0 M) (hm : ML d K M) (hb : PB M K) (hf : isF M K f) (h3 : 3 ≤ cn (lv M) K) (rk : RK M d K X0 m p) (cx : CX cs X0) {o : Int32} {oj : Bool} (ho : o = if oj = true then 1 else 0) (fg : FG X0 X) (gr : GR M d t c 0 X) (nx : ∀ j, j < c → Nx (elM M d K cs) (jrM cs) (pvM M d) f false t j (t j)) (hj : oj = false → ∀ k, elM M d K cs k → k / 12 ≠ f → cs k = 1 → lab t c (k / 12) = lab t c (k % 12)) (hp : ∀ X' t' c', FG X0 X' → GR M d t' c' 0 X' → (∀ j, j < c' → Nx (elM M d K cs) (jrM cs) (pvM M d) f false t' j (t' j)) → (∀ k, elM M d K cs k → k / 12 ≠ f → (oj = true → cs k = 1) → lab t' c' (k / 12) = lab t' c' (k % 12)) → post X') : wp_Tree_takeOthers X (nI f) o post := by
  have hK := hm.1
  have hc := cn_le (lv M) K
  have hfK := hf.1
  obtain ⟨r1, r2, r3, r4, r5⟩ := id rk
  have go : ∀ (r i : Nat) (Y : ST) (t : Nat → Nat) (c : Nat), i + r = m → FG X0 Y → GR M d t c 0 Y → (∀ j, j < c → Nx (elM M d K cs) (jrM cs) (pvM M d) f false t j (t j)) → (oj = false → ∀ k, elM M d K cs k → k / 12 ≠ f → cs k = 1 → lab t c (k / 12) = lab t c (k % 12)) → (∀ i', i' < i → elM M d K cs (p i') → p i' / 12 ≠ f → (oj = true → cs (p i') = 1) → lab t c (p i' / 12) = lab t c (p i' % 12)) → wp_Tree_takeOthers_13 (fun X18 => post X18) post (r + 1) Y (nI f) o (nI (cn (lv M) K - 2)) (nI i) := by
    intro r
    induction r with
    | zero =>
      intro i Y t c hi fY g nxc h3c h2c
      refine yes (by rw [(fY.rk rk).1]; exact nI_le (by omega) (by omega)) (hp Y t c fY g nxc (fun k el kf q => ?_))
      obtain ⟨i', hi', e⟩ := r5 k el.1 el.2.1
      subst e
      exact h2c i' (by omega) el kf q
    | succ r ih =>
      intro i Y t c hi fY g nxc h3c h2c
      have rkY := fY.rk rk
      have sl := seq_le hf h3 (fun j hj => (nxc j hj).1)
      have him : i < m := by omega
      refine nay (by rw [rkY.1]; exact nI_ge (by omega) (by omega)) ?_
      rw [g.1]
      refine bh (fun c0 => hp Y t c fY g nxc (fun k el kf q => ?_)) (fun c0 => ?_)
      · have c0 := (nI_leI (by omega) (by omega)).mp c0
        have lp := el.2.1
        have := lp.1
        have := lp.2.1
        exact seq_all hf (fun j hj => (nxc j hj).1) (by omega) (by omega) (by omega) lp.2.2.1 lp.2.2.2 kf (lp_f hf lp)
      obtain ⟨k1, k2, k3⟩ := rkY.2.2.1 i him
      have l1 := k3.1
      have l2 := k3.2.1
      have skip : ∀ Z, Z = Y → (elM M d K cs (p i) → p i / 12 ≠ f → (oj = true → cs (p i) = 1) → lab t c (p i / 12) = lab t c (p i % 12)) → wp_Tree_takeOthers_13 (fun X18 => post X18) post (r + 1) Z (nI f) o (nI (cn (lv M) K - 2)) (nI i + 1) := by
        intro Z hZ q
        subst hZ
        rw [nI_1]
        refine ih (i + 1) Z t c (by omega) fY g nxc h3c (fun i' hi' => ?_)
        by_cases y : i' = i
        · subst y; exact q
        · exact h2c i' (by omega)
      refine pairAt_ok (by omega) k2 k1 (lesser_ok k2 (pairAt_ok (by omega) k2 k1 (greater_ok k2 (bh (fun e => skip Y rfl (fun _ kf => ?_)) (fun e => ⟨vp_in_nI (by omega) (by decide), ?_⟩)))))
      · exact absurd ((nI_eq (by omega) (by omega)).mp e) kf
      have kf : p i / 12 ≠ f := fun z => e (by rw [z])
      rw [nI_clamp (show p i / 12 < 2 ^ 31 by omega)]
      refine isIn_ok (by omega) (fun b => ya1 (skip Y rfl (fun _ _ _ => ?_))) (fun b => no1 ?_)
      · rw [g.2.2.2.2 _ (by omega) _ (by omega)] at b
        exact (of_decide_eq_true b).2
      rw [g.2.2.2.2 _ (by omega) _ (by omega)] at b
      have nl : lab t c (p i / 12) ≠ lab t c (p i % 12) := fun z => of_decide_eq_false b ⟨by omega, z⟩
      refine mayTake_ok hm hb rkY (fY.cx cx) him ho (fun q el => ya2 ?_) (fun q => no2 (skip Y rfl (fun el _ z => ?_)))
      · have nk : Nx (elM M d K cs) (jrM cs) (pvM M d) f false t c (p i) := by
          refine ⟨⟨el, fun j hj z => nl (by rw [← z]; exact lab_in hj), fun z => absurd z (by decide), fun _ => ⟨kf, nl⟩⟩, fun u cu => ?_⟩
          obtain ⟨u1, u2, u3, u4⟩ := cu
          have u4 := u4 rfl
          obtain ⟨j, hj, ej⟩ := r5 u u1.1 u1.2.1
          have order : (oj = true → cs u = 1) → u = p i ∨ (pvM M d (p i) < pvM M d u ∨ (pvM M d (p i) = pvM M d u ∧ p i < u)) := by
            intro w
            rcases Nat.lt_trichotomy i j with y | y | y
            · refine Or.inr (key_ah k2 u1.1 el.2.2.2 u1.2.2.2 ?_)
              rw [← ej]; exact r4 i j y hj
            · subst y; exact Or.inl ej.symm
            · subst ej
              exact absurd (h2c j y u1 u4.1 w) u4.2
          unfold ah jrM
          rcases oj with _ | _
          · have ck : cs (p i) ≠ 1 := fun z => absurd (q.mp z) (by decide)
            have cu1 : cs u ≠ 1 := fun z => u4.2 (h3c rfl u u1 u4.1 z)
            rw [if_neg ck, if_neg cu1]
            rcases order (fun z => absurd z (by decide)) with y | y
            · exact Or.inl y
            · exact Or.inr (Or.inr ⟨rfl, y⟩)
          · have ck : cs (p i) = 1 := q.mpr rfl
            rw [if_pos ck]
            by_cases cu1 : cs u = 1
            · rw [if_pos cu1]
              rcases order (fun _ => cu1) with y | y
              · exact Or.inl y
              · exact Or.inr (Or.inr ⟨rfl, y⟩)
            · rw [if_neg cu1]
              exact Or.inr (Or.inl (by omega))
        refine take_ok hm hb rkY him el.2.2.2 g (by omega) (fun Z fZ gZ => ?_)
        rw [nI_1]
        have lm : ∀ x y, lab t c x = lab t c y → lab (upn t c (p i)) (c + 1) x = lab (upn t c (p i)) (c + 1) y := by
          intro x y z
          refine lab_m ?_
          rw [← lab_congr c (fun j hj => (upn_n (v := p i) (show j ≠ c by omega)).symm), ← lab_congr c (fun j hj => (upn_n (v := p i) (show j ≠ c by omega)).symm)]
          exact z
        refine ih (i + 1) Z (upn t c (p i)) (c + 1) (by omega) (fY.tr fZ) gZ (fun j hj => ?_) (fun z k e1 e2 e3 => lm _ _ (h3c z k e1 e2 e3)) (fun i' hi' e1 e2 e3 => ?_)
        · by_cases y : j = c
          · subst y; exact Nx_upc nk
          · exact Nx_upn (by omega) (nxc j (by omega))
        · by_cases y : i' = i
          · subst y
            have := lab_t (t := upn t c (p i')) (i := c)
            rw [upn_s] at this
            exact this
          · exact lm _ _ (h2c i' (by omega) e1 e2 e3)
      · refine absurd ⟨⟨fun y => ?_, fun y => z y⟩, el⟩ q
        rcases oj with _ | _
        · exact absurd (h3c rfl (p i) el kf y) nl
        · rfl
  refine liveCount_ok (FX.lamp fg.fx hk) (nm ?_)
  rw [n2 (by omega)]
  exact ⟨_, go m 0 X t c (by omega) fg gr nx hj (fun i' hi' => absurd hi' (by omega))⟩
theorem takeOfFirst_ok {M : ST} {d : Nat → Nat → Nat} {K m f : Nat} {cs : Nat → Nat} {X0 X : ST} {p : Nat → Nat} {t : Nat → Nat} {c1 cf : Nat} {post : ST → Prop} (hm : ML d K M) (hb : PB M K) (hf : isF M K f) (h12 : c1 ≤ 10) (rk : RK M d K X0 m p) (cx : CX cs X0) {o : Int32} {oj : Bool} (ho : o = if oj = true then 1 else 0) (fg : FG X0 X) (gr : GR M d t (c1 + cf) cf X) (hcf : cf ≤ 2) (nx1 : ∀ j, j < c1 → Nx (elM M d K cs) (jrM cs) (pvM M d) f false t j (t j)) (nx2 : ∀ j, c1 ≤ j → j < c1 + cf → Nx (elM M d K cs) (jrM cs) (pvM M d) f true t j (t j)) (hj1 : ∀ j, c1 ≤ j → j < c1 + cf → oj = false ∧ cs (t j) = 1) (hj2 : oj = false → cf < 2 → ∀ k, elM M d K cs k → k / 12 = f → cs k = 1 → ∃ j, c1 ≤ j ∧ j < c1 + cf ∧ t j = k) (hp : ∀ X' t' cf', FG X0 X' → GR M d t' (c1 + cf') cf' X' → cf' ≤ 2 → (∀ j, j < c1 → t' j = t j) → (∀ j, c1 ≤ j → j < c1 + cf' → Nx (elM M d K cs) (jrM cs) (pvM M d) f true t' j (t' j)) → (oj = true → ∀ j, c1 ≤ j → j < c1 + cf' → cs (t' j) = 1) → (cf' < 2 → ∀ k, elM M d K cs k → k / 12 = f → (oj = true → cs k = 1) → ∃ j, c1 ≤ j ∧ j < c1 + cf' ∧ t' j = k) → post X') : wp_Tree_takeOfFirst X (nI f) o post := by
  have hK := hm.1
  have hfK := hf.1
  obtain ⟨r1, r2, r3, r4, r5⟩ := id rk
  have go : ∀ (r i : Nat) (Y : ST) (u : Nat → Nat) (cf : Nat), i + r = m → FG X0 Y → GR M d u (c1 + cf) cf Y → cf ≤ 2 → (∀ j, j < c1 → u j = t j) → (∀ j, c1 ≤ j → j < c1 + cf → Nx (elM M d K cs) (jrM cs) (pvM M d) f true u j (u j)) → (oj = true → ∀ j, c1 ≤ j → j < c1 + cf → cs (u j) = 1) → (∀ j, c1 ≤ j → j < c1 + cf → (∃ i', i' < i ∧ u j = p i') ∨ (oj = false ∧ cs (u j) = 1)) → (oj = false → cf < 2 → ∀ k, elM M d K cs k → k / 12 = f → cs k = 1 → ∃ j, c1 ≤ j ∧ j < c1 + cf ∧ u j = k) → (cf < 2 → ∀ i', i' < i → elM M d K cs (p i') → p i' / 12 = f → (oj = true → cs (p i') = 1) → ∃ j, c1 ≤ j ∧ j < c1 + cf ∧ u j = p i') → wp_Tree_takeOfFirst_2 (fun X10 => post X10) post (r + 1) Y (nI f) o (nI i) := by
    intro r
    induction r with
    | zero =>
      intro i Y u cf hi fY g h2 hu nxc hoc h4 h3 h5
      refine yes (by rw [(fY.rk rk).1]; exact nI_le (by omega) (by omega)) (hp Y u cf fY g h2 hu nxc hoc (fun c0 k el kf q => ?_))
      obtain ⟨i', hi', e⟩ := r5 k el.1 el.2.1
      subst e
      exact h5 c0 i' (by omega) el kf q
    | succ r ih =>
      intro i Y u cf hi fY g h2 hu nxc hoc h4 h3 h5
      have rkY := fY.rk rk
      have him : i < m := by omega
      refine nay (by rw [rkY.1]; exact nI_ge (by omega) (by omega)) ?_
      rw [g.2.1]
      refine bh (fun c0 => hp Y u cf fY g h2 hu nxc hoc (fun c9 => ?_)) (fun c0 => ?_)
      · have c0 := (nI_leI (a := 2) (by omega) (by omega)).mp c0
        omega
      have c0 : cf < 2 := by
        rcases Nat.lt_or_ge cf 2 with y | y
        · exact y
        · exact absurd (nI_le (a := 2) y (by omega)) c0
      obtain ⟨k1, k2, k3⟩ := rkY.2.2.1 i him
      have l1 := k3.1
      have l2 := k3.2.1
      have skip : ∀ Z, Z = Y → (elM M d K cs (p i) → p i / 12 = f → (oj = true → cs (p i) = 1) → ∃ j, c1 ≤ j ∧ j < c1 + cf ∧ u j = p i) → wp_Tree_takeOfFirst_2 (fun X10 => post X10) post (r + 1) Z (nI f) o (nI i + 1) := by
        intro Z hZ q
        subst hZ
        rw [nI_1]
        refine ih (i + 1) Z u cf (by omega) fY g h2 hu nxc hoc (fun j a b => ?_) h3 (fun c9 i' hi' => ?_)
        · rcases h4 j a b with ⟨i', y1, y2⟩ | y
          · exact Or.inl ⟨i', by omega, y2⟩
          · exact Or.inr y
        · by_cases y : i' = i
          · subst y; exact q
          · exact h5 c9 i' (by omega)
      refine pairAt_ok (by omega) k2 k1 (lesser_ok k2 (bn (fun e => skip Y rfl (fun _ kf => ?_)) (fun e => ?_)))
      · exact absurd (by rw [kf]) e
      have kf : p i / 12 = f := (nI_eq (by omega) (by omega)).mp e
      refine mayTake_ok hm hb rkY (fY.cx cx) him ho (fun q el => ya2 ?_) (fun q => no2 (skip Y rfl (fun el _ z => ?_)))
      · have fresh : ∀ j, j < c1 + cf → u j ≠ p i := by
          intro j hj z
          rcases Nat.lt_or_ge j c1 with y | y
          · have := (nx1 j y).1.2.2.2 rfl
            rw [← hu j y, z] at this
            exact this.1 kf
          · rcases h4 j y hj with ⟨i', y1, y2⟩ | ⟨y1, y2⟩
            · have := rk.inj (i := i') (j := i) (by omega) him (y2.symm.trans z)
              omega
            · rw [z] at y2
              have := q.mp y2
              rw [y1] at this
              exact absurd this (by decide)
        have nk : Nx (elM M d K cs) (jrM cs) (pvM M d) f true u (c1 + cf) (p i) := by
          refine ⟨⟨el, fresh, fun _ => kf, fun z => absurd z (by decide)⟩, fun w cw => ?_⟩
          obtain ⟨u1, u2, u3, u4⟩ := cw
          have u3 := u3 rfl
          obtain ⟨j, hj, ej⟩ := r5 w u1.1 u1.2.1
          have order : (oj = true → cs w = 1) → w = p i ∨ (pvM M d (p i) < pvM M d w ∨ (pvM M d (p i) = pvM M d w ∧ p i < w)) := by
            intro q2
            rcases Nat.lt_trichotomy i j with y | y | y
            · refine Or.inr (key_ah k2 u1.1 el.2.2.2 u1.2.2.2 ?_)
              rw [← ej]; exact r4 i j y hj
            · subst y; exact Or.inl ej.symm
            · subst ej
              obtain ⟨j', a, b, e'⟩ := h5 c0 j y u1 u3 q2
              exact absurd e' (u2 j' b)
          unfold ah jrM
          rcases oj with _ | _
          · have ck : cs (p i) ≠ 1 := fun z => absurd (q.mp z) (by decide)
            have cu1 : cs w ≠ 1 := fun z => by
              obtain ⟨j', a, b, e'⟩ := h3 rfl c0 w u1 u3 z
              exact absurd e' (u2 j' b)
            rw [if_neg ck, if_neg cu1]
            rcases order (fun z => absurd z (by decide)) with y | y
            · exact Or.inl y
            · exact Or.inr (Or.inr ⟨rfl, y⟩)
          · have ck : cs (p i) = 1 := q.mpr rfl
            rw [if_pos ck]
            by_cases cu1 : cs w = 1
            · rw [if_pos cu1]
              rcases order (fun _ => cu1) with y | y
              · exact Or.inl y
              · exact Or.inr (Or.inr ⟨rfl, y⟩)
            · rw [if_neg cu1]
              exact Or.inr (Or.inl (by omega))
        refine take_ok hm hb rkY him el.2.2.2 g (by omega) (fun Z fZ gZ => nm ?_)
        rw [gZ.2.1, nI_1, nI_1]
        have oldu : ∀ j, j < c1 + cf → upn u (c1 + cf) (p i) j = u j := fun j hj => upn_n (by omega)
        refine ih (i + 1) (xs_Tree_takenOfFirst Z (nI (cf + 1))) (upn u (c1 + cf) (p i)) (cf + 1) (by omega) ((fY.tr fZ).sI (by decide) _) ⟨gZ.1, rfl, gZ.2.2.1, gZ.2.2.2.1, gZ.2.2.2.2⟩ (by omega) (fun j hj => by rw [oldu j (by omega)]; exact hu j hj) (fun j a b => ?_) (fun z j a b => ?_) (fun j a b => ?_) (fun z _ k e1 e2 e3 => ?_) (fun _ i' hi' e1 e2 e3 => ?_)
        · by_cases y : j = c1 + cf
          · subst y; exact Nx_upc nk
          · exact Nx_upn (by omega) (nxc j a (by omega))
        · by_cases y : j = c1 + cf
          · subst y; rw [upn_s]; exact q.mpr z
          · rw [upn_n y]; exact hoc z j a (by omega)
        · by_cases y : j = c1 + cf
          · subst y; rw [upn_s]; exact Or.inl ⟨i, by omega, rfl⟩
          · rw [upn_n y]
            rcases h4 j a (by omega) with ⟨i', y1, y2⟩ | y
            · exact Or.inl ⟨i', by omega, y2⟩
            · exact Or.inr y
        · obtain ⟨j, a, b, e'⟩ := h3 z c0 k e1 e2 e3
          exact ⟨j, a, by omega, by rw [oldu j b]; exact e'⟩
        · by_cases y : i' = i
          · subst y; exact ⟨c1 + cf, by omega, by omega, upn_s⟩
          · obtain ⟨j, a, b, e'⟩ := h5 c0 i' (by omega) e1 e2 e3
            exact ⟨j, a, by omega, by rw [oldu j b]; exact e'⟩
      · rcases oj with _ | _
        · by_cases y : cs (p i) = 1
          · exact h3 rfl c0 (p i) el kf y
          · exact absurd ⟨⟨fun z => absurd z y, fun z => absurd z (by decide)⟩, el⟩ q
        · exact absurd ⟨⟨fun _ => rfl, fun _ => z rfl⟩, el⟩ q
  exact ⟨_, go m 0 X t cf (by omega) fg gr hcf (fun _ _ => rfl) nx2 (fun z j a b => (hj1 j a b).2) (fun j a b => Or.inr (hj1 j a b)) hj2 (fun _ i' hi' => absurd hi' (by omega))⟩
theorem hung0_ok {X : ST} {K38 : ST → Prop} {post : ST → Prop} (h : ∀ g, (∀ l, l < 12 → g l = (1 : Int32) <<< (nI l &&& 31)) → K38 (xs_Tree_hung X g)) : ∃ n, wp_Tree_grow_17 K38 post n X 0 := by
  have go : ∀ (m i : Nat) (g : Nat → Int32), i + m = 12 → (∀ l, l < i → g l = (1 : Int32) <<< (nI l &&& 31)) → wp_Tree_grow_17 K38 post (m + 1) (xs_Tree_hung X g) (nI i) := by
    intro m
    induction m with
    | zero =>
      intro i g hi h1
      exact yes (nI_le (a := 12) (by omega) (by omega)) (h g (fun l hl => h1 l (by omega)))
    | succ m ih =>
      intro i g hi h1
      refine nay (nI_ge (b := 12) (by omega) (by decide)) ⟨vp_in_nI (by omega) (by decide), nm ?_⟩
      rw [hung2, hungg, nI_clamp (show i < 2 ^ 31 by omega), nI_1]
      refine ih (i + 1) _ (by omega) (fun l hl => ?_)
      by_cases y : l = i
      · subst y; rw [pk_us]
      · rw [pk_un y]; exact h1 l (by omega)
  have st := go 12 0 (x_Tree_hung X) (by omega) (fun l hl => absurd hl (by omega))
  rw [hungs] at st
  exact ⟨_, st⟩
theorem grow_ok {n : Nat} {M : ST} {d : Nat → Nat → Nat} {K m f : Nat} {cs : Nat → Nat} {X : ST} {p : Nat → Nat} {post : ST → Prop} (hk : LampK n K X M) (hn : n ≤ 600) (hm : ML d K M) (hf : isF M K f) (h3 : 3 ≤ cn (lv M) K) (rk : RK M d K X m p) (cx : CX cs X) (hp : ∀ X' t c1 c, FG X X' → TM M d K cs f t c1 c → GR M d t c (c - c1) X' → post X') : wp_Tree_grow X post := by
  have hK := hm.1
  have hb := hk.pb hn
  have hc := cn_le (lv M) K
  refine nm (nm (nm (hung0_ok (fun g hg => ?_))))
  generalize hY : xs_Tree_hung _ g = Y
  have fY : FG X Y := by
    rw [← hY]
    exact ((((Fe.rf X).sI (by decide) _).sI (by decide) _).sJ (by decide) _).sA (by decide) _
  have gY : GR M d (fun _ => 0) 0 0 Y := by
    rw [← hY]
    refine ⟨rfl, rfl, fun i hi => absurd hi (by omega), rfl, fun a ha b hb => ?_⟩
    rw [hungg, hg a ha, b_bit a (by omega) hb]
    apply decide_eq_decide.mpr
    show b = a ↔ b < 12 ∧ a = b
    omega
  clear hY
  refine firstLive_ok (FX.lamp fY.fx hk) hf (takeOthers_ok hk hm hb hf h3 rk cx (oj := true) rfl fY gY (fun j hj => absurd hj (by omega)) (fun z => absurd z (by decide)) (fun X1 t1 c1 f1 g1 n1 e1 => ?_))
  refine takeOthers_ok hk hm hb hf h3 rk cx (oj := false) rfl f1 g1 n1 (fun _ k a b c => e1 k a b (fun _ => c)) (fun X2 t2 c2 f2 g2 n2 e2 => ?_)
  have sl := seq_le hf h3 (fun j hj => (n2 j hj).1)
  refine takeOfFirst_ok hm hb hf (c1 := c2) (cf := 0) (by omega) rk cx (oj := true) rfl f2 g2 (by omega) n2 (fun j a b => absurd b (by omega)) (fun j a b => absurd b (by omega)) (fun z => absurd z (by decide)) (fun X3 t3 cf3 f3 g3 l3 u3 n3 j3 e3 => ?_)
  have n23 : ∀ j, j < c2 → Nx (elM M d K cs) (jrM cs) (pvM M d) f false t3 j (t3 j) := fun j hj => by
    rw [u3 j hj]
    exact Nx_congr (fun i hi => (u3 i (by omega)).symm) (n2 j hj)
  refine takeOfFirst_ok hm hb hf (c1 := c2) (cf := cf3) (by omega) rk cx (oj := false) rfl f3 g3 l3 n23 n3 (fun j a b => ⟨rfl, j3 rfl j a b⟩) (fun _ q k e1 e2 e3' => e3 q k e1 e2 (fun _ => e3')) (fun X4 t4 cf4 f4 g4 l4 u4 n4 j4 e4 => ?_)
  have ag : ∀ j, j < c2 → t2 j = t4 j := fun j hj => by rw [u4 j hj, u3 j hj]
  refine hp X4 t4 c2 (c2 + cf4) f4 ⟨fun j hj => ?_, fun k ck => ?_, by omega, by omega, n4, ?_⟩ (by rw [show c2 + cf4 - c2 = cf4 by omega]; exact g4)
  · rw [← ag j hj]
    exact Nx_congr (fun i hi => ag i (by omega)) (n2 j hj)
  · have ck2 := cand_congr (fun i hi => (ag i hi).symm) ck
    have z := ck2.2.2.2 rfl
    exact z.2 (e2 k ck2.1 z.1 (fun y => absurd y (by decide)))
  · by_cases y : cf4 = 2
    · exact Or.inl (by omega)
    · refine Or.inr (fun k ck => ?_)
      obtain ⟨j, a, b, e⟩ := e4 (by omega) k ck.1 (ck.2.2.1 rfl) (fun z => absurd z (by decide))
      exact ck.2.1 j b e
/-- the PRICES of all LAMPS that aren't OUT -/
def plit (M : ST) : Nat → Int
  | 0 => 0
  | l + 1 => plit M l + (if m_isOut M l = 0 then (m_price M l).toInt else 0)
theorem plit_s (M : ST) (l : Nat) : plit M (l + 1) = plit M l + (if m_isOut M l = 0 then (m_price M l).toInt else 0) := rfl
theorem TM.lits {M : ST} {d : Nat → Nat → Nat} {K f : Nat} {cs t : Nat → Nat} {c1 c : Nat} (h : TM M d K cs f t c1 c) : ∀ i, i < c → elM M d K cs (t i) := fun i hi => by
  rcases Nat.lt_or_ge i c1 with y | y
  · exact (h.1 i y).1.1
  · exact (h.2.2.2.2.1 i y hi).1.1
theorem sumOfCase_ok {n : Nat} {M : ST} {d : Nat → Nat → Nat} {K f : Nat} {cs : Nat → Nat} {X : ST} {t : Nat → Nat} {c1 c : Nat} {post : Int64 → ST → Prop} (hk : LampK n K X M) (hf : isF M K f) (tm : TM M d K cs f t c1 c) (gr : GR M d t c (c - c1) X) (h1 : c = c1 + 2 → (∀ l, l < K → m_isOut M l = 0 → lab t c l = lab t c f) → post (oL (psum (pvM M d) t c - 2 * plit M K)) X) (h0 : ¬ (c = c1 + 2 ∧ ∀ l, l < K → m_isOut M l = 0 → lab t c l = lab t c f) → post 4611686018427387904 X) : wp_Tree_sumOfCase X post := by
  have hK := hk.1
  have hfK := hf.1
  have c2 := tm.2.2.2.1
  refine firstLive_ok hk hf (nay (nI_m1 (by omega)) ?_)
  rw [gr.2.1]
  refine bh (fun q => h0 (fun z => ?_)) (fun q => ⟨vp_in_nI (by omega) (by decide), ?_⟩)
  · have := (nI_ltI (b := 2) (by omega) (by decide)).mp q
    omega
  have q : c = c1 + 2 := by
    rcases Nat.lt_or_ge (c - c1) 2 with y | y
    · exact absurd (nI_lt (b := 2) y (by decide)) q
    · omega
  rw [nI_clamp (show f < 2 ^ 31 by omega)]
  have iff : x_Tree_hung X f = x_Lamps_live X ↔ ∀ l, l < K → m_isOut M l = 0 → lab t c l = lab t c f := by
    constructor
    · intro e l hl ho
      have a := gr.2.2.2.2 f (by omega) l (by omega)
      rw [e, hk.2.2.2.2.2 l (by omega), decide_eq_true ⟨hl, ho⟩] at a
      exact (of_decide_eq_true a.symm).2.symm
    · intro e
      refine b_ext (fun l hl => ?_)
      rw [gr.2.2.2.2 f (by omega) l hl, hk.2.2.2.2.2 l hl]
      apply decide_eq_decide.mpr
      constructor
      · intro z
        rcases lab_lit (Q := fun l => l < K ∧ m_isOut M l = 0) c (fun i hi => by
          have lp := (tm.lits i hi).2.1
          have := lp.1
          have := lp.2.1
          exact ⟨⟨by omega, lp.2.2.1⟩, ⟨lp.2.1, lp.2.2.2⟩⟩) f l z.2 with y | y
        · subst y; exact ⟨hfK, hf.2.1⟩
        · exact y.2
      · intro z
        exact ⟨by omega, (e l z.1 z.2).symm⟩
  refine bh (fun e => nm ?_) (fun e => h0 (fun z => e (iff.mpr z.2)))
  rw [gr.2.2.2.1]
  have go : ∀ (r l : Nat), l + r = K → wp_Tree_sumOfCase_49 (fun X7 v8 => post v8 X7) post (r + 1) X (oL (psum (pvM M d) t c - 2 * plit M l)) (nI l) := by
    intro r
    induction r with
    | zero =>
      intro l hl
      have : l = K := by omega
      subst this
      exact yes (by rw [hk.2.1]; exact nI_le (Nat.le_refl _) (by omega)) (h1 q (iff.mp e))
    | succ r ih =>
      intro l hl
      have st := ih (l + 1) (by omega)
      rw [plit_s] at st
      refine nay (by rw [hk.2.1]; exact nI_ge (by omega) (by omega)) (isLive_ok hk (fun z => absurd z (fun z => z.elim (nI_pos (by omega)) (nI_ge (by omega) (by omega)))) (fun l' hl' e' o' => ya2 ⟨vp_in_nI (by omega) (by decide), nm ?_⟩) (fun l' hl' e' o' => no2 ?_))
      · have e' : l = l' := (nI_eq (by omega) (by omega)).mp e'
        subst e'
        rw [if_pos o'] at st
        rw [nI_clamp (show l < 2 ^ 31 by omega), (hk.2.2.2.1 l hl').2.2.1, oL_of, show (2 : Int64) = oL 2 from rfl, oL_mul, oL_sub, nI_1, show psum (pvM M d) t c - 2 * plit M l - 2 * (m_price M l).toInt = psum (pvM M d) t c - 2 * (plit M l + (m_price M l).toInt) by omega]
        exact st
      · have e' : l = l' := (nI_eq (by omega) (by omega)).mp e'
        subst e'
        rw [if_neg o', Int.add_zero] at st
        rw [nI_1]
        exact st
  have st := go K 0 (by omega)
  rw [show psum (pvM M d) t c - 2 * plit M 0 = psum (pvM M d) t c by show _ - 2 * 0 = _; omega] at st
  exact ⟨_, st⟩
