/-! PURE: how many are JOINED; rings -/
theorem cn_one {a : Nat} : ∀ n, cn (fun i => decide (i = a)) n = if a < n then 1 else 0
  | 0 => rfl
  | n + 1 => by
    have ih := cn_one (a := a) n
    rw [cn_s]
    by_cases y : n = a
    · rw [if_pos (decide_eq_true y), ih, if_neg (by omega), if_pos (by omega)]
    · rw [if_neg (show ¬ decide (n = a) = true by rw [decide_eq_true_iff]; exact y), ih]
      by_cases z : a < n
      · rw [if_pos z, if_pos (by omega)]
      · rw [if_neg z, if_neg (by omega)]
def ind (b : Bool) : Nat := if b = true then 1 else 0
theorem cn_i (p : Nat → Bool) (n : Nat) : cn p (n + 1) = cn p n + ind (p n) := rfl
theorem cn_3 {s p q r : Nat → Bool} : ∀ n, (∀ i, i < n → ind (s i) = ind (p i) + ind (q i) + ind (r i)) → cn s n = cn p n + cn q n + cn r n
  | 0, _ => rfl
  | n + 1, h => by
    have a := cn_3 n (fun i hi => h i (by omega))
    have b := h n (by omega)
    rw [cn_i, cn_i, cn_i, cn_i]
    omega
/-- so many are JOINED with a LAMP -/
def jb (M : ST) (cs : Nat → Nat) (v a b : Nat) : Bool := decide (m_isOut M b = 0 ∧ b ≠ a ∧ cs (pai a b) = v)
def jc (M : ST) (K : Nat) (cs : Nat → Nat) (v a : Nat) : Nat := cn (jb M cs v a) K
def fc (M : ST) (K : Nat) (cs : Nat → Nat) (a : Nat) : Nat := cn (fun b => decide (m_isOut M b = 0 ∧ b ≠ a ∧ cs (pai a b) ≠ 2)) K
theorem fc_sum {M : ST} {K a : Nat} {cs : Nat → Nat} (ha : a < K) (oa : m_isOut M a = 0) : cn (lv M) K = fc M K cs a + jc M K cs 2 a + 1 := by
  have e := cn_3 (s := lv M) (p := fun b => decide (m_isOut M b = 0 ∧ b ≠ a ∧ cs (pai a b) ≠ 2)) (q := jb M cs 2 a) (r := fun b => decide (b = a)) K (fun i hi => by
    unfold ind jb lv
    by_cases y : i = a
    · subst y
      rw [if_pos (decide_eq_true oa), if_neg (by rw [decide_eq_true_iff]; exact fun z => z.2.1 rfl), if_neg (by rw [decide_eq_true_iff]; exact fun z => z.2.1 rfl), if_pos (decide_eq_true rfl)]
    · by_cases o : m_isOut M i = 0
      · by_cases c : cs (pai a i) = 2
        · rw [if_pos (decide_eq_true o), if_neg (by rw [decide_eq_true_iff]; exact fun z => z.2.2 c), if_pos (decide_eq_true ⟨o, y, c⟩), if_neg (by rw [decide_eq_true_iff]; exact y)]
        · rw [if_pos (decide_eq_true o), if_pos (decide_eq_true ⟨o, y, c⟩), if_neg (by rw [decide_eq_true_iff]; exact fun z => c z.2.2), if_neg (by rw [decide_eq_true_iff]; exact y)]
      · rw [if_neg (by rw [decide_eq_true_iff]; exact o), if_neg (by rw [decide_eq_true_iff]; exact fun z => o z.1), if_neg (by rw [decide_eq_true_iff]; exact fun z => o z.1), if_neg (by rw [decide_eq_true_iff]; exact y)])
  rw [cn_one, if_pos ha] at e
  exact e
/-- who isn't free of another isn't OUT -/
theorem cs_lit {M : ST} {K x y : Nat} {r : List (Nat × Bool)} (ok : OKP M K r) (hx : x < 12) (hy : y < 12) (hne : x ≠ y) (e : cso r (pai x y) ≠ 0) : (x < K ∧ m_isOut M x = 0) ∧ (y < K ∧ m_isOut M y = 0) := by
  have lp := (OKP_lp ok e).2
  obtain ⟨l1, l2, l3, l4⟩ := lp
  rcases pai_div hx hy hne with ⟨z1, z2, z3⟩ | ⟨z1, z2, z3⟩
  · rw [z2] at l3; rw [z3] at l2 l4
    exact ⟨⟨by omega, l3⟩, ⟨l2, l4⟩⟩
  · rw [z2] at l3; rw [z3] at l2 l4
    exact ⟨⟨l2, l4⟩, ⟨by omega, l3⟩⟩
theorem bits_jc {M : ST} {K a v : Nat} {r : List (Nat × Bool)} {f : Nat → Int32} (hK : K ≤ 12) (ok : OKP M K r) (hv : v ≠ 0) (h : JB v (cso r) f) (ha : a < 12) : cn (bt (f a)) 12 = jc M K (cso r) v a := by
  unfold jc
  have e : ∀ i, i < 12 → bt (f a) i = (decide (i < K) && jb M (cso r) v a i) := by
    intro i hi
    rw [h a ha i (by omega)]
    unfold jb
    rw [← Bool.decide_and]
    apply decide_eq_decide.mpr
    constructor
    · intro z
      have q := cs_lit ok ha hi z.2.1 (by rw [z.2.2]; exact hv)
      exact ⟨q.2.1, q.2.2, fun w => z.2.1 w.symm, z.2.2⟩
    · intro z
      exact ⟨hi, fun w => z.2.2.1 w.symm, z.2.2.2⟩
  rw [cn_congr 12 e, cn_false (k := K) 12 (fun i hi => by rw [decide_eq_false (by omega)]; rfl) hK]
  exact cn_congr K (fun i hi => by rw [decide_eq_true hi]; rfl)
theorem bc_ok {M : ST} {K a v : Nat} {r : List (Nat × Bool)} {X : ST} {f : Nat → Int32} {post : Int32 → ST → Prop} (hK : K ≤ 12) (ok : OKP M K r) (hv : v ≠ 0) (h : JB v (cso r) f) (ha : a < 12) (hp : post (nI (jc M K (cso r) v a)) X) : wp_int_bitCount X (f a) post := by
  refine bitCount_ok (fun i hi => ?_) ?_
  · rcases Nat.lt_or_ge i 32 with y | y
    · rw [h a ha i y]
      exact decide_eq_false (fun z => by have := z.1; omega)
    · exact b_big y
  · rw [bits_jc hK ok hv h ha]; exact hp
/-- hangs by JOINED pairs -/
def Rch (cs : Nat → Nat) (a b : Nat) : Prop := ∀ S : Nat → Prop, S a → (∀ x y, x < 12 → y < 12 → S x → x ≠ y → cs (pai x y) = 1 → S y) → S b
theorem Rch.lt {cs : Nat → Nat} {a b : Nat} (ha : a < 12) (h : Rch cs a b) : b < 12 := h (fun x => x < 12) ha (fun x y _ hy _ _ _ => hy)
theorem Rch.st {cs : Nat → Nat} {a x y : Nat} (h : Rch cs a x) (hx : x < 12) (hy : y < 12) (hne : x ≠ y) (e : cs (pai x y) = 1) : Rch cs a y := fun S sa sc => sc x y hx hy (h S sa sc) hne e
def Rg (M : ST) (K : Nat) (cs : Nat → Nat) (a : Nat) : Prop := (∀ l, Rch cs a l → jc M K cs 1 l = 2) ∧ ¬ ∀ l, l < K → m_isOut M l = 0 → Rch cs a l
theorem Rch.lit {M : ST} {K a b : Nat} {r : List (Nat × Bool)} (ok : OKP M K r) (ha : a < K) (oa : m_isOut M a = 0) (h : Rch (cso r) a b) : b < K ∧ m_isOut M b = 0 := h (fun x => x < K ∧ m_isOut M x = 0) ⟨ha, oa⟩ (fun x y hx hy _ hne e => (cs_lit ok hx hy hne (by rw [e]; omega)).2)
theorem ring26_ok {r : List (Nat × Bool)} {X : ST} {R B l4 : Int32} {K58 : ST → Int32 → Int32 → Int32 → Prop} {post : Int32 → ST → Prop} (h : JB 1 (cso r) (x_Case_joined X)) (hp : ∀ R', (∀ y, y < 32 → (bt R' y = true ↔ bt R y = true ∨ ∃ o, o < 12 ∧ bt B o = true ∧ y < 12 ∧ o ≠ y ∧ cso r (pai o y) = 1)) → K58 X R' B l4) : ∃ n, wp_Case_ringOf_26 K58 post n X R B l4 0 := by
  have go : ∀ (m i : Nat) (R' : Int32), i + m = 12 → (∀ y, y < 32 → (bt R' y = true ↔ bt R y = true ∨ ∃ o, o < i ∧ bt B o = true ∧ y < 12 ∧ o ≠ y ∧ cso r (pai o y) = 1)) → wp_Case_ringOf_26 K58 post (m + 1) X R' B l4 (nI i) := by
    intro m
    induction m with
    | zero =>
      intro i R' hi hR
      have : i = 12 := by omega
      subst this
      exact yes (by decide) (hp R' hR)
    | succ m ih =>
      intro i R' hi hR
      refine nay (nI_ge (b := 12) (by omega) (by decide)) (isIn_ok (by omega) (fun b => ya2 ⟨vp_in_nI (by omega) (by decide), nm ?_⟩) (fun b => no2 ?_))
      · rw [nI_clamp (show i < 2 ^ 31 by omega), nI_1]
        refine ih (i + 1) _ (by omega) (fun y hy => ?_)
        rw [b_or, Bool.or_eq_true, hR y hy, h i (by omega) y hy, decide_eq_true_iff]
        constructor
        · rintro ((z | ⟨o, z1, z2⟩) | z)
          · exact Or.inl z
          · exact Or.inr ⟨o, by omega, z2⟩
          · exact Or.inr ⟨i, by omega, b, z⟩
        · rintro (z | ⟨o, z1, z2⟩)
          · exact Or.inl (Or.inl z)
          · by_cases w : o = i
            · subst w; exact Or.inr z2.2
            · exact Or.inl (Or.inr ⟨o, by omega, z2⟩)
      · rw [nI_1]
        refine ih (i + 1) R' (by omega) (fun y hy => ?_)
        rw [hR y hy]
        constructor
        · rintro (z | ⟨o, z1, z2⟩)
          · exact Or.inl z
          · exact Or.inr ⟨o, by omega, z2⟩
        · rintro (z | ⟨o, z1, z2⟩)
          · exact Or.inl z
          · by_cases w : o = i
            · subst w
              rw [z2.1] at b
              exact absurd b (by decide)
            · exact Or.inr ⟨o, by omega, z2⟩
  exact ⟨_, go 12 0 R (by omega) (fun y hy => ⟨fun z => Or.inl z, fun z => z.elim id (fun ⟨o, z1, _⟩ => absurd z1 (by omega))⟩)⟩
theorem ringOf_ok {r : List (Nat × Bool)} {X : ST} {a : Nat} {post : Int32 → ST → Prop} (h : JB 1 (cso r) (x_Case_joined X)) (ha : a < 12) (hp : ∀ R, (∀ y, y < 32 → (bt R y = true ↔ Rch (cso r) a y)) → post R X) : wp_Case_ringOf X (nI a) post := by
  -- what holds of a ring on the way
  have hi0 : ∀ {R : Int32}, (∀ y, y < 32 → bt R y = true → Rch (cso r) a y) → ∀ y, 12 ≤ y → bt R y = false := by
    intro R hs y hy
    rcases Nat.lt_or_ge y 32 with z | z
    · rcases w : bt R y with _ | _
      · rfl
      · have := (hs y z w).lt ha; omega
    · exact b_big z
  have fin : ∀ R : Int32, bt R a = true → (∀ y, y < 32 → bt R y = true → Rch (cso r) a y) → (∀ o y, o < 12 → y < 12 → bt R o = true → o ≠ y → cso r (pai o y) = 1 → bt R y = true) → post R X := by
    intro R h1 h2 h3
    refine hp R (fun y hy => ⟨h2 y hy, fun q => q (fun x => bt R x = true) h1 (fun x y hx hy hb hne e => h3 x y hx hy hb hne e)⟩)
  have go : ∀ (m k : Nat) (R B : Int32), k + m = 12 → bt R a = true → (∀ y, y < 32 → bt R y = true → Rch (cso r) a y) → (R = B → ∀ o y, o < 12 → y < 12 → bt R o = true → o ≠ y → cso r (pai o y) = 1 → bt R y = true) → (R ≠ B → k + 1 ≤ cn (bt R) 12) → wp_Case_ringOf_9 (fun X9 v10 => post v10 X9) post (m + 1) X R B (nI k) := by
    intro m
    induction m with
    | zero =>
      intro k R B hk h1 h2 h3 h4
      have e : R = B := by
        rcases Classical.em (R = B) with z | z
        · exact z
        · have := h4 z
          have := cn_le (bt R) 12
          omega
      exact yes (nI_le (a := 12) (by omega) (by omega)) (fin R h1 h2 (h3 e))
    | succ m ih =>
      intro k R B hk h1 h2 h3 h4
      refine nay (nI_ge (b := 12) (by omega) (by decide)) (bh (fun e => fin R h1 h2 (h3 e)) (fun e => ring26_ok h (fun R' hR' => ?_)))
      rw [nI_1]
      have sub : ∀ y, y < 32 → bt R y = true → bt R' y = true := fun y hy z => (hR' y hy).mpr (Or.inl z)
      refine ih (k + 1) R' R (by omega) (sub a (by omega) h1) (fun y hy z => ?_) (fun e2 o y ho hy hb hne c => ?_) (fun e2 => ?_)
      · rcases (hR' y hy).mp z with w | ⟨o, w1, w2, w3, w4, w5⟩
        · exact h2 y hy w
        · exact (h2 o (by omega) w2).st w1 w3 w4 w5
      · exact (hR' y (by omega)).mpr (Or.inr ⟨o, ho, by rw [e2] at hb; exact hb, hy, hne, c⟩)
      · have ex : ∃ j, j < 12 ∧ bt R j = false ∧ bt R' j = true := by
          rcases Classical.em (∃ j, j < 12 ∧ bt R j = false ∧ bt R' j = true) with z | z
          · exact z
          · refine absurd (b_ext (fun y hy => ?_)) e2
            rcases Nat.lt_or_ge y 12 with w | w
            · rcases u1 : bt R y with _ | _
              · rcases u2 : bt R' y with _ | _
                · rfl
                · exact absurd ⟨y, w, u1, u2⟩ z
              · rw [sub y hy u1]
            · have hs' : ∀ y, y < 32 → bt R' y = true → Rch (cso r) a y := fun y hy z => by
                rcases (hR' y hy).mp z with w | ⟨o, w1, w2, w3, w4, w5⟩
                · exact h2 y hy w
                · exact (h2 o (by omega) w2).st w1 w3 w4 w5
              rw [hi0 h2 y w, hi0 hs' y w]
        obtain ⟨j, j1, j2, j3⟩ := ex
        have := cn_strict (p := bt R) (q := bt R') 12 j1 (fun i hi z => sub i (by omega) z) j2 j3
        have := h4 e
        omega
  have hb : ∀ y, y < 32 → bt ((1 : Int32) <<< (nI a &&& 31)) y = decide (y = a) := fun y hy => b_bit a (by omega) hy
  have b1 : bt ((1 : Int32) <<< (nI a &&& 31)) a = true := by rw [hb a (by omega)]; exact decide_eq_true rfl
  refine nm ⟨_, go 12 0 _ 0 (by omega) b1 (fun y hy z => ?_) (fun e => ?_) (fun _ => ?_)⟩
  · rw [hb y hy] at z
    have := of_decide_eq_true z
    subst this
    exact fun S sa _ => sa
  · rw [e, b_0] at b1
    exact absurd b1 (by decide)
  · exact inj_cn _ 12 1 (fun _ => a) (fun i hi => ⟨ha, b1⟩) (fun i j hi hj _ => by omega)
theorem isRing_ok {n K a : Nat} {M : ST} {r : List (Nat × Bool)} {X : ST} {R : Int32} {post : Int32 → ST → Prop} (hk : LampK n K X M) (xa : XA M K r X) (ha : a < K) (oa : m_isOut M a = 0) (hR : ∀ y, y < 32 → (bt R y = true ↔ Rch (cso r) a y)) (h1 : Rg M K (cso r) a → post 1 X) (h0 : ¬ Rg M K (cso r) a → post 0 X) : wp_Judge_isRing X R post := by
  have hK := hk.1
  obtain ⟨x1, x2, ok, j1, j2, x6⟩ := xa
  have eqv : R = x_Lamps_live X ↔ ∀ l, l < K → m_isOut M l = 0 → Rch (cso r) a l := by
    constructor
    · intro e l hl ol
      refine (hR l (by omega)).mp ?_
      rw [e, hk.2.2.2.2.2 l (by omega)]
      exact decide_eq_true ⟨hl, ol⟩
    · intro e
      refine b_ext (fun y hy => ?_)
      rw [Bool.eq_iff_iff, hR y hy, hk.2.2.2.2.2 y hy, decide_eq_true_iff]
      exact ⟨fun z => z.lit ok ha oa, fun z => e y z.1 z.2⟩
  have go : ∀ (m i : Nat), i + m = 12 → (∀ l, l < i → Rch (cso r) a l → jc M K (cso r) 1 l = 2) → wp_Judge_isRing_2 (fun X5 => post 0 X5) (fun X6 v7 => (v7 = (x_Lamps_live X6) → (post 0 X6)) ∧ (¬ v7 = (x_Lamps_live X6) → (post 1 X6))) post (m + 1) X R (nI i) := by
    intro m
    induction m with
    | zero =>
      intro i hi hj
      have : i = 12 := by omega
      subst this
      refine yes (by decide) (bh (fun e => h0 (fun z => z.2 (eqv.mp e))) (fun e => h1 ⟨fun l hl => hj l (hl.lt (by omega)) hl, fun z => e (eqv.mpr z)⟩))
    | succ m ih =>
      intro i hi hj
      refine nay (nI_ge (b := 12) (by omega) (by decide)) (isIn_ok (by omega) (fun b => ya2 ⟨vp_in_nI (by omega) (by decide), ?_⟩) (fun b => no2 ?_))
      · have q := (hR i (by omega)).mp b
        have jl : jc M K (cso r) 1 i ≤ K := cn_le _ K
        rw [nI_clamp (show i < 2 ^ 31 by omega)]
        refine bc_ok hK ok (by omega) j1 (by omega) ?_
        rw [nI_1]
        refine bh (fun c => ih (i + 1) (by omega) (fun l hl z => ?_)) (fun c => h0 (fun z => c (by rw [z.1 i q]; rfl)))
        by_cases w : l = i
        · subst w; exact (nI_eq (b := 2) (by omega) (by decide)).mp c
        · exact hj l (by omega) z
      · rw [nI_1]
        refine ih (i + 1) (by omega) (fun l hl z => ?_)
        by_cases w : l = i
        · subst w
          rw [(hR l (by omega)).mpr z] at b
          exact absurd b (by decide)
        · exact hj l (by omega) z
  exact ⟨_, go 12 0 (by omega) (fun l hl => absurd hl (by omega))⟩
/-! the model -/
theorem joinedOf_ok {M Y : ST} {d : Nat → Nat → Nat} {K a : Nat} {cs : Nat → Nat} {post : Int32 → ST → Prop} (fm : FM M Y) (hm : ML d K M) (cm : CM cs Y) (ha : a < 12) (h : post (nI (jc M K cs 1 a)) Y) : wp_m_joinedOf Y (nI a) post := by
  have hK := hm.1
  have el : m_lamps Y = nI K := (fm.1 16 (by decide)).trans hm.2.1
  have go : ∀ (m i : Nat), i + m = K → wp_m_joinedOf_4 (fun M9 v10 => post v10 M9) post (m + 1) Y (nI a) (nI (cn (jb M cs 1 a) i)) (nI i) := by
    intro m
    induction m with
    | zero =>
      intro i hi
      have : i = K := by omega
      subst this
      exact yes (by rw [el]; exact nI_le (Nat.le_refl _) (by omega)) h
    | succ m ih =>
      intro i hi
      have st := ih (i + 1) (by omega)
      have no : jb M cs 1 a i = false → wp_m_joinedOf_4 (fun M9 v10 => post v10 M9) post (m + 1) Y (nI a) (nI (cn (jb M cs 1 a) i) + 0) (nI (i + 1)) := by
        intro z
        rw [cn_s, if_neg (by rw [z]; decide), Nat.add_zero] at st
        rw [nI_zero]
        exact st
      refine nay (by rw [el]; exact nI_ge (by omega) (by omega)) ?_
      rw [nI_1 i]
      refine bh (fun e => nm (no (decide_eq_false (fun z => ?_)))) (fun e => mlit_ok fm hm (by omega) (fun a1 a2 => ya2 ?_) (fun q => no2 (nm (no (decide_eq_false (fun z => q ⟨by omega, z.1⟩))))))
      · exact z.2.1 ((nI_eq (by omega) (by omega)).mp e)
      · have ne : i ≠ a := fun z => e (by rw [z])
        have p4 := pai_lt (x := a) (y := i) ha (by omega)
        obtain ⟨c1, c2⟩ := cm _ p4
        refine mpairOf_ok ha (by omega) (fun z => ne z.symm) ⟨vp_in_nI p4 (by decide), ?_⟩
        rw [nI_clamp (show pai a i < 2 ^ 31 by omega), c1]
        refine bn (fun c => nm (no (decide_eq_false (fun z => c (by rw [z.2.2]; rfl))))) (fun c => nm ?_)
        have c := (nI_eq (b := 1) (by omega) (by decide)).mp c
        rw [cn_s, if_pos (show jb M cs 1 a i = true from decide_eq_true ⟨a2, ne, c⟩), ← nI_1] at st
        exact st
  exact ⟨_, go K 0 (by omega)⟩
theorem misFew_ok {M Y : ST} {d : Nat → Nat → Nat} {K a : Nat} {cs : Nat → Nat} {post : Int32 → ST → Prop} (fm : FM M Y) (hm : ML d K M) (cm : CM cs Y) (ha : a < K) (oa : m_isOut M a = 0) (h1 : fc M K cs a < 2 → post 1 Y) (h0 : ¬ fc M K cs a < 2 → post 0 Y) : wp_m_isFew Y (nI a) post := by
  have hK := hm.1
  have el : m_lamps Y = nI K := (fm.1 16 (by decide)).trans hm.2.1
  have fl : fc M K cs a ≤ K := cn_le _ K
  have go : ∀ (m i : Nat), i + m = K → wp_m_isFew_14 (fun M11 v12 => (2 ≤ v12 → (post 0 M11)) ∧ (¬ 2 ≤ v12 → (post 1 M11))) post (m + 1) Y (nI a) (nI (cn (fun b => decide (m_isOut M b = 0 ∧ b ≠ a ∧ cs (pai a b) ≠ 2)) i)) (nI i) := by
    intro m
    induction m with
    | zero =>
      intro i hi
      have : i = K := by omega
      subst this
      refine yes (by rw [el]; exact nI_le (Nat.le_refl _) (by omega)) (bh (fun c => h0 (fun z => ?_)) (fun c => h1 ?_))
      · have := (nI_leI (a := 2) (b := fc M i cs a) (by decide) (by omega)).mp c
        omega
      · rcases Nat.lt_or_ge (fc M i cs a) 2 with y | y
        · exact y
        · exact absurd (nI_le (a := 2) y (by omega)) c
    | succ m ih =>
      intro i hi
      have st := ih (i + 1) (by omega)
      have no : decide (m_isOut M i = 0 ∧ i ≠ a ∧ cs (pai a i) ≠ 2) = false → wp_m_isFew_14 (fun M11 v12 => (2 ≤ v12 → (post 0 M11)) ∧ (¬ 2 ≤ v12 → (post 1 M11))) post (m + 1) Y (nI a) (nI (cn (fun b => decide (m_isOut M b = 0 ∧ b ≠ a ∧ cs (pai a b) ≠ 2)) i) + 0) (nI (i + 1)) := by
        intro z
        rw [cn_s, if_neg (by rw [z]; decide), Nat.add_zero] at st
        rw [nI_zero]
        exact st
      refine nay (by rw [el]; exact nI_ge (by omega) (by omega)) ?_
      rw [nI_1 i]
      refine bh (fun e => nm (no (decide_eq_false (fun z => ?_)))) (fun e => mlit_ok fm hm (by omega) (fun a1 a2 => ya2 ?_) (fun q => no2 (nm (no (decide_eq_false (fun z => q ⟨by omega, z.1⟩))))))
      · exact z.2.1 ((nI_eq (by omega) (by omega)).mp e)
      · have ne : i ≠ a := fun z => e (by rw [z])
        have p4 := pai_lt (x := a) (y := i) (by omega) (by omega)
        obtain ⟨c1, c2⟩ := cm _ p4
        refine mpairOf_ok (by omega) (by omega) (fun z => ne z.symm) ⟨vp_in_nI p4 (by decide), ?_⟩
        rw [nI_clamp (show pai a i < 2 ^ 31 by omega), c1]
        refine bh (fun c => nm (no (decide_eq_false (fun z => z.2.2 ((nI_eq (b := 2) (by omega) (by decide)).mp c))))) (fun c => nm ?_)
        have c : cs (pai a i) ≠ 2 := fun z => c (by rw [z]; rfl)
        rw [cn_s, if_pos (decide_eq_true ⟨a2, ne, c⟩), ← nI_1] at st
        exact st
  exact mlit_ok fm hm (by omega) (fun _ _ => ya1 ⟨_, go K 0 (by omega)⟩) (fun q => absurd ⟨ha, oa⟩ q)
theorem misMany_ok {M Y : ST} {d : Nat → Nat → Nat} {K a : Nat} {cs : Nat → Nat} {post : Int32 → ST → Prop} (fm : FM M Y) (hm : ML d K M) (cm : CM cs Y) (ha : a < K) (oa : m_isOut M a = 0) (h1 : 2 < jc M K cs 1 a → post 1 Y) (h0 : ¬ 2 < jc M K cs 1 a → post 0 Y) : wp_m_isMany Y (nI a) post := by
  have hK := hm.1
  have jl : jc M K cs 1 a ≤ K := cn_le _ K
  refine mlit_ok fm hm (by omega) (fun _ _ => ya2 (joinedOf_ok fm hm cm (by omega) (bh (fun c => h0 ?_) (fun c => h1 ?_)))) (fun q => absurd ⟨ha, oa⟩ q)
  · have := (nI_leI (b := 2) (by omega) (by decide)).mp c
    omega
  · rcases Nat.lt_or_ge 2 (jc M K cs 1 a) with y | y
    · exact y
    · exact absurd (nI_le (b := 2) y (by decide)) c
