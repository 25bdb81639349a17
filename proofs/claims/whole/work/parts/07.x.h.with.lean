/-! PURE: with; second -/
theorem misLit_ok {n K : Nat} {X M : ST} (h : LampK n K X M) {p : Int32} {post : Int32 → ST → Prop} (h0 : (p < 0 ∨ nI K ≤ p) → post 0 M) (h1 : ∀ l, l < K → p = nI l → m_isOut M l = 0 → post 1 M) (h2 : ∀ l, l < K → p = nI l → ¬ m_isOut M l = 0 → post 0 M) : wp_m_isLit M p post := by
  have hK := h.1
  refine misLamp_ok h (fun q => no2 (h0 q)) (fun l hl e => ya2 ?_)
  subst e
  refine ⟨vp_in_nI (by omega) (by decide), ?_⟩
  rw [nI_clamp (show l < 2 ^ 31 by omega)]
  exact bn (fun c => h2 l hl rfl c) (fun c => h1 l hl rfl c)
/-- the answer of both, when both look for the same ROUNDS -/
theorem same_ok {n0 n K : Nat} {d : Nat → Nat → Nat} {e : Nat → Nat} {mu ba : Nat → Nat → Bool} {SH EX : (Nat → Nat) → Prop} {X M : ST} {w a b : Int32} {F : (Int32 → ST → Prop) → Prop} (ev : Ev M d K n e) (hn : n ≤ 8) (hX : InvD n0 d X M) (se : SE M d K n e mu ba SH X) (hb : x_Search_bestLength X = 2147483647) (iff : 3 ≤ n → ∀ s, RS M K n e s → (GX n mu ba SH s ↔ GM M d K n EX s)) (hx : 3 ≤ n → HX M K n e EX w a b) (hc : ∀ s s', (∀ i, i < n → s i = s' i) → EX s → EX s') (hF : ∀ P : Int32 → ST → Prop, wp_m_search M w a b (fun r8 M7 => (¬ r8 = 1000000000 → (P r8 M7)) ∧ (r8 = 1000000000 → (P (-7) M7))) → F P) : wp_Search_run X (fun r11 X10 => (r11 = 0 → F (fun q M1 => -7 = q ∧ Inv (n0 + 1) X10 M1)) ∧ (¬ r11 = 0 → F (fun q M1 => (x_Search_bestLength X10) = q ∧ Inv (n0 + 1) X10 M1))) := by
  have hm := ev.1
  have hK := hm.1
  have gi : 3 ≤ n → ∀ s, RS M K n e s → (GG M d n (GX n mu ba SH) s ↔ GG M d n (GM M d K n EX) s) := by
    intro h3 s rs
    unfold GG
    rw [iff h3 s rs]
  refine run_ok ev hn se hb (fun X3 fs z => no2 (hF _ (msearch_ok ev hx hc (fun M' fq y => yes' rfl ⟨rfl, Inv.up ⟨d, fq.fm.inv (fs.fx.inv hX)⟩⟩) (fun M' r fq h3 o y => ?_)))) (fun X3 r fs h3 o eb br => ya2 (hF _ (msearch_ok ev hx hc (fun M' fq z => ?_) (fun M' r' fq _ o' br' => nay' (fun y => ?_) ⟨?_, Inv.up ⟨d, fq.fm.inv (fs.fx.inv hX)⟩⟩))))
  · rcases z with z | z
    · omega
    · exact absurd o.2.1 (fun q => z r o.1 ((gi h3 r o.1).mpr q))
  · rcases z with z | z
    · omega
    · exact absurd o.2.1 (fun q => z r o.1 ((gi h3 r o.1).mp q))
  · have := cst_le hm o'.1
    have := (nI_eq (b := 1000000000) (by omega) (by decide)).mp y
    omega
  · rw [eb, (Opt_u hK (Opt_congr (gi h3) o) o').1]
theorem ML.wr {d : Nat → Nat → Nat} {K : Nat} {M : ST} (h : ML d K M) (g : Nat → Int32) : ML d K (ms_written M g) := h
theorem same2_ok {n0 n K : Nat} {d : Nat → Nat → Nat} {e : Nat → Nat} {mu ba : Nat → Nat → Bool} {SH EX : (Nat → Nat) → Prop} {X M : ST} {w a b : Int32} {W : (Nat → Int32) → Prop} {F : (Int32 → ST → Prop) → Prop} (ev : Ev M d K n e) (hn : n ≤ 8) (hX : InvD n0 d X M) (se : SE M d K n e mu ba SH X) (hb : x_Search_bestLength X = 2147483647) (iff : 3 ≤ n → ∀ s, RS M K n e s → (GX n mu ba SH s ↔ GM M d K n EX s)) (hx : ∀ g, W g → HX (ms_written M g) K n e EX w a b) (hc : ∀ s s', (∀ i, i < n → s i = s' i) → EX s → EX s') (hF : ∀ P : Int32 → ST → Prop, (∀ g, W g → wp_m_search (ms_written M g) w a b (fun r8 M7 => (¬ r8 = 1000000000 → (P r8 M7)) ∧ (r8 = 1000000000 → (P (-7) M7)))) → F P) : wp_Search_run X (fun r11 X10 => (r11 = 0 → F (fun q M1 => -7 = q ∧ Inv (n0 + 1) X10 M1)) ∧ (¬ r11 = 0 → F (fun q M1 => (x_Search_bestLength X10) = q ∧ Inv (n0 + 1) X10 M1))) := by
  have hm := ev.1
  have hK := hm.1
  have gi : 3 ≤ n → ∀ s, RS M K n e s → (GG M d n (GX n mu ba SH) s ↔ GG M d n (GM M d K n EX) s) := by
    intro h3 s rs
    unfold GG
    rw [iff h3 s rs]
  have ev' : ∀ g, Ev (ms_written M g) d K n e := fun g => ev
  have fw : ∀ g, FM M (ms_written M g) := fun g => (Fe.rf M).sA (by decide) _
  refine run_ok ev hn se hb (fun X3 fs z => no2 (hF _ (fun g hg => msearch_ok (ev' g) (fun _ => hx g hg) hc (fun M' fq y => yes' rfl ⟨rfl, Inv.up ⟨d, fq.fm.inv ((fw g).inv (fs.fx.inv hX))⟩⟩) (fun M' r fq h3 o y => ?_)))) (fun X3 r fs h3 o eb br => ya2 (hF _ (fun g hg => msearch_ok (ev' g) (fun _ => hx g hg) hc (fun M' fq z => ?_) (fun M' r' fq _ o' br' => nay' (fun y => ?_) ⟨?_, Inv.up ⟨d, fq.fm.inv ((fw g).inv (fs.fx.inv hX))⟩⟩))))
  · have o : Opt M d K n e (GG M d n (GM M d K n EX)) r := o
    rcases z with z | z
    · omega
    · exact absurd o.2.1 (fun q => z r o.1 ((gi h3 r o.1).mpr q))
  · have z : n < 3 ∨ ∀ s, RS M K n e s → ¬ GG M d n (GM M d K n EX) s := z
    rcases z with z | z
    · omega
    · exact absurd o.2.1 (fun q => z r o.1 ((gi h3 r o.1).mp q))
  · have := cst_le (hm.wr g) o'.1
    have := (nI_eq (b := 1000000000) (by omega) (by decide)).mp y
    omega
  · have o' : Opt M d K n e (GG M d n (GM M d K n EX)) r' := o'
    show x_Search_bestLength X3 = nI (cst M d n r')
    rw [eb, (Opt_u hK (Opt_congr (gi h3) o) o').1]
/-- a set of pairs with one more -/
def tieS (t : Nat → Nat → Bool) (a b l j : Nat) : Bool := t l j || decide ((l = a ∧ j = b) ∨ (l = b ∧ j = a))
theorem tie_bits {f : Nat → Int32} {t : Nat → Nat → Bool} {a b K : Nat} (hf : ∀ l, l < K → ∀ j, j < 32 → bt (f l) j = t l j) (ha : a < K) (hb : b < K) (hK : K ≤ 12) (hab : a ≠ b) : ∀ l, l < K → ∀ j, j < 32 → bt (upd (upd f a (f a ||| ((1 : Int32) <<< (nI b &&& 31)))) b (upd f a (f a ||| ((1 : Int32) <<< (nI b &&& 31))) b ||| ((1 : Int32) <<< (nI a &&& 31))) l) j = tieS t a b l j := by
  intro l hl j hj
  unfold tieS
  by_cases e1 : l = b
  · subst e1
    rw [pk_us, pk_un (fun q => hab q.symm), b_or, b_bit a (by omega) hj, hf l hl j hj]
    congr 1
    apply decide_eq_decide.mpr
    constructor
    · exact fun q => Or.inr ⟨rfl, q⟩
    · rintro (q | q)
      · exact absurd q.1.symm hab
      · exact q.2
  · rw [pk_un e1]
    by_cases e2 : l = a
    · subst e2
      rw [pk_us, b_or, b_bit b (by omega) hj, hf l hl j hj]
      congr 1
      apply decide_eq_decide.mpr
      constructor
      · exact fun q => Or.inl ⟨rfl, q⟩
      · rintro (q | q)
        · exact q.2
        · exact absurd q.1 e1
    · rw [pk_un e2, hf l hl j hj, decide_eq_false (by rintro (q | q); exact e2 q.1; exact e1 q.1), Bool.or_false]
theorem stie_ok {X : ST} {k a b : Nat} {post : ST → Prop} (ha : a < 12) (hb : b < 12) (hp : post (ks_sA X k (upd (upd (X.2.2.1 k) a (X.2.2.1 k a ||| ((1 : Int32) <<< (nI b &&& 31)))) b (upd (X.2.2.1 k) a (X.2.2.1 k a ||| ((1 : Int32) <<< (nI b &&& 31))) b ||| ((1 : Int32) <<< (nI a &&& 31)))))) : wp_Search_tie X k 12 (nI a) (nI b) post := by
  have v : ∀ k, k < 12 → vp_in (nI k) 12 := fun k hk => vp_in_nI hk (by decide)
  refine ⟨v _ ha, v _ ha, nm ⟨v _ hb, v _ hb, nm ?_⟩⟩
  rw [sA_sA, gA_sA, nI_clamp (show a < 2 ^ 31 by omega), nI_clamp (show b < 2 ^ 31 by omega)]
  exact hp
theorem iff2 {M : ST} {d : Nat → Nat → Nat} {K n a b : Nat} {e s : Nat → Nat} (hm : ML d K M) (rs : RS M K n e s) (ha : a < K) (hb : b < K) (oa : m_isOut M a = 0) (ob : m_isOut M b = 0) : GX n (tieS (mu0 M d K) a b) (fun _ _ => false) (fun _ => False) s ↔ GM M d K n (Bes n a b) s := by
  have hK := hm.1
  obtain ⟨i0, hi0, ei⟩ := rs.1.full ha oa
  obtain ⟨j0, hj0, ej⟩ := rs.1.full hb ob
  have bi := Bes_at rs.1 hi0 hj0 ei ej
  unfold GX GM
  rw [KT_ct]
  constructor
  · intro h
    refine ⟨h.1, fun i hi => (mu0_ct hm rs.1 hi).mp (fun j hj q => h.2.1 i hi j hj (by unfold tieS; rw [q]; rfl)), bi.mpr ?_⟩
    have := h.2.1 i0 hi0 b (by omega) (by unfold tieS; rw [ei, decide_eq_true (Or.inl ⟨rfl, rfl⟩), Bool.or_true])
    rw [← ej] at this
    rcases this with z | z
    · exact Or.inr (rs.1.2.2 _ _ hj0 (pvp_lt hi0) z)
    · exact Or.inl (rs.1.2.2 _ _ hj0 (nxp_lt hi0) z)
  · intro h
    have bb := bi.mp h.2.2
    refine ⟨h.1, fun i hi j hj q => ?_, fun _ _ => rfl, fun q => q⟩
    unfold tieS at q
    rw [Bool.or_eq_true, decide_eq_true_iff] at q
    rcases q with q | ⟨q1, q2⟩ | ⟨q1, q2⟩
    · exact (mu0_ct hm rs.1 hi).mpr (h.2.1 i hi) j hj q
    · have : i = i0 := rs.1.2.2 _ _ hi hi0 (q1.trans ei.symm)
      subst this
      rw [q2, ← ej]
      rcases bb with z | z
      · exact Or.inr (by rw [z])
      · exact Or.inl (by rw [z])
    · have : i = j0 := rs.1.2.2 _ _ hi hj0 (q1.trans ej.symm)
      subst this
      rw [q2, ← ei]
      rcases bb with z | z
      · exact Or.inl (by rw [← (nxp_pv hi0 hi).mp z])
      · exact Or.inr (by rw [← (nxp_pv hi hi0).mpr z])
theorem iff3 {M : ST} {d : Nat → Nat → Nat} {K n a b : Nat} {e s : Nat → Nat} (hm : ML d K M) (rs : RS M K n e s) (ha : a < K) (hb : b < K) : GX n (mu0 M d K) (tieS (fun _ _ => false) a b) (fun _ => False) s ↔ GM M d K n (fun s => ¬ Bes n a b s) s := by
  have hK := hm.1
  unfold GX GM
  rw [KT_ct]
  have bf : (∀ i, i < n → tieS (fun _ _ => false) a b (s i) (s (nxp n i)) = false) ↔ ¬ Bes n a b s := by
    constructor
    · rintro h ⟨i, j, h1, h2, h3, h4, h5⟩
      rcases h5 with z | z
      · have := h i h1
        unfold tieS at this
        rw [← z, h3, h4, decide_eq_true (Or.inl ⟨rfl, rfl⟩)] at this
        exact absurd this (by simp)
      · have zz := (nxp_pv h2 h1).mpr z
        have := h j h2
        unfold tieS at this
        rw [← zz, h3, h4, decide_eq_true (Or.inr ⟨rfl, rfl⟩)] at this
        exact absurd this (by simp)
    · intro h i hi
      unfold tieS
      rw [Bool.false_or]
      refine decide_eq_false ?_
      rintro (⟨q1, q2⟩ | ⟨q1, q2⟩)
      · exact h ⟨i, nxp n i, hi, nxp_lt hi, q1, q2, Or.inl rfl⟩
      · exact h ⟨nxp n i, i, nxp_lt hi, hi, q2, q1, Or.inr ((nxp_pv hi (nxp_lt hi)).mp rfl)⟩
  rw [bf]
  constructor
  · intro h
    exact ⟨h.1, fun i hi => (mu0_ct hm rs.1 hi).mp (h.2.1 i hi), h.2.2.1⟩
  · intro h
    exact ⟨h.1, fun i hi => (mu0_ct hm rs.1 hi).mpr (h.2.1 i hi), h.2.2, fun q => q⟩
theorem ls_with (n : Nat) (X M : ST) (a1 a2 z3 : Int32) (_ : n < 512) (hz : bz z3) (h : Inv n X M) : wp_LR_with X a1 a2 z3 (fun r X1 => wp_m_with M a1 a2 z3 (fun q M1 => r = q ∧ Inv (n + 1) X1 M1)) := by
  have hu := h.up
  obtain ⟨d, hd⟩ := h
  obtain ⟨K, hk, hm⟩ := hd.ml
  have hK := hm.1
  have hc := cn_le (lv M) K
  have ev := Ev_mk hm
  have m0 : ∀ {p : Int32} {P : Int32 → ST → Prop}, ((p < 0 ∨ nI K ≤ p) ∨ ∃ l, l < K ∧ p = nI l ∧ ¬ m_isOut M l = 0) → P 0 M → wp_m_isLit M p P := by
    intro p P q hP
    refine misLit_ok hk (fun _ => hP) (fun l hl e ho => ?_) (fun _ _ _ _ => hP)
    subst e
    rcases q with q | ⟨l', hl', e', ho'⟩
    · exact absurd q (fun q => q.elim (nI_pos (by omega)) (nI_ge hl (by omega)))
    · have : l = l' := (nI_eq (by omega) (by omega)).mp e'
      subst this
      exact absurd ho ho'
  have m1 : ∀ {l : Nat} {P : Int32 → ST → Prop}, l < K → m_isOut M l = 0 → P 1 M → wp_m_isLit M (nI l) P := by
    intro l P hl ho hP
    refine misLit_ok hk (fun q => absurd q (fun q => q.elim (nI_pos (by omega)) (nI_ge hl (by omega)))) (fun _ _ _ _ => hP) (fun l' hl' e ho' => ?_)
    have : l = l' := (nI_eq (by omega) (by omega)).mp e
    subst this
    exact absurd ho ho'
  refine isLive_ok hk (fun q => no2 (m0 (Or.inl q) (no2 ⟨rfl, hu⟩))) (fun a ha ea oa => ya2 ?_) (fun l hl e ho => no2 (m0 (Or.inr ⟨l, hl, e, ho⟩) (no2 ⟨rfl, hu⟩)))
  subst ea
  refine isLive_ok hk (fun q => no2 (m1 ha oa (ya2 (m0 (Or.inl q) (no2 ⟨rfl, hu⟩))))) (fun b hb eb ob => ya2 ?_) (fun l hl e ho => no2 (m1 ha oa (ya2 (m0 (Or.inr ⟨l, hl, e, ho⟩) (no2 ⟨rfl, hu⟩)))))
  subst eb
  have mm : ∀ {P : Int32 → ST → Prop}, ((¬ nI a = nI b → (wp_m_lit M (fun r6 M5 => (r6 ≤ 8 → ((z3 = 0 → (wp_m_with_45 P M5 (nI a) (nI b) 3)) ∧ (¬ z3 = 0 → (wp_m_with_45 P M5 (nI a) (nI b) 2)))) ∧ (¬ r6 ≤ 8 → (P (-8) M5))))) ∧ (nI a = nI b → (P (-1) M))) → wp_m_with M (nI a) (nI b) z3 P := fun q => m1 ha oa (ya2 (m1 hb ob (ya2 q)))
  refine bn (fun c => ?_) (fun c => mm (yes' c ⟨rfl, hu⟩))
  have hab : a ≠ b := fun q => c (by rw [q])
  refine isLarge_ok hk (fun c8 => no2 ?_) (fun c8 => ya2 (mm (nay' c (lit_ok hk (nay (nI_ge (a := 8) c8 (by omega)) ⟨rfl, hu⟩)))))
  refine begin_ok hd hm hk c8 (fun X1 X2 hX1 sv fx se hbl => bh (fun z0 => stie_ok (by omega) (by omega) ?_) (fun z0 => stie_ok (by omega) (by omega) ?_))
  · have fx2 := fx.sA (k := 29) (by decide) (upd (upd (X2.2.2.1 29) a (X2.2.2.1 29 a ||| ((1 : Int32) <<< (nI b &&& 31)))) b (upd (X2.2.2.1 29) a (X2.2.2.1 29 a ||| ((1 : Int32) <<< (nI b &&& 31))) b ||| ((1 : Int32) <<< (nI a &&& 31))))
    refine same_ok (e := en (lv M) K) (mu := mu0 M d K) (ba := tieS (fun _ _ => false) a b) (SH := fun _ => False) (EX := fun s => ¬ Bes (cn (lv M) K) a b s) (w := 3) (a := nI a) (b := nI b) (F := fun P => wp_m_with M (nI a) (nI b) z3 P) ev c8 (FX.inv fx2 hX1) ?_ hbl (fun _ s rs => iff3 hm rs ha hb) (fun _ => HX3 hm ha hb oa ob hab) (fun s s' e q z => q (Bes_congr s' s (fun i hi => (e i hi).symm) z)) (fun P hP => mm (nay' c (lit_ok hk (yes (nI_le (b := 8) c8 (by decide)) (yes z0 hP)))))
    exact ⟨se.1, se.2.1, fun x y hx hy => se.2.2.1 x y hx hy, se.2.2.2.1, tie_bits se.2.2.2.2.1 ha hb hK hab, se.2.2.2.2.2⟩
  · have fx2 := fx.sA (k := 28) (by decide) (upd (upd (X2.2.2.1 28) a (X2.2.2.1 28 a ||| ((1 : Int32) <<< (nI b &&& 31)))) b (upd (X2.2.2.1 28) a (X2.2.2.1 28 a ||| ((1 : Int32) <<< (nI b &&& 31))) b ||| ((1 : Int32) <<< (nI a &&& 31))))
    refine same_ok (e := en (lv M) K) (mu := tieS (mu0 M d K) a b) (ba := fun _ _ => false) (SH := fun _ => False) (EX := Bes (cn (lv M) K) a b) (w := 2) (a := nI a) (b := nI b) (F := fun P => wp_m_with M (nI a) (nI b) z3 P) ev c8 (FX.inv fx2 hX1) ?_ hbl (fun _ s rs => iff2 hm rs ha hb oa ob) (fun _ => HX2 hm ha hb oa ob hab) (fun s s' e q => Bes_congr s s' e q) (fun P hP => mm (nay' c (lit_ok hk (yes (nI_le (b := 8) c8 (by decide)) (nay z0 hP)))))
    exact ⟨se.1, se.2.1, fun x y hx hy => se.2.2.1 x y hx hy, tie_bits se.2.2.2.1 ha hb hK hab, se.2.2.2.2.1, se.2.2.2.2.2⟩
/-! the told row as ROUNDS are written -/
def amn (r : Nat → Nat) : Nat → Nat
  | 0 => 0
  | k + 1 => if r k < r (amn r k) then k else amn r k
theorem amn_s (r : Nat → Nat) (k : Nat) : amn r (k + 1) = if r k < r (amn r k) then k else amn r k := rfl
theorem amn_lt (r : Nat → Nat) : ∀ k, amn r (k + 1) < k + 1
  | 0 => by
    rw [amn_s]
    split
    · omega
    · show 0 < 1; omega
  | k + 1 => by
    have := amn_lt r k
    rw [amn_s]
    split <;> omega
def zF (T : Nat) (r : Nat → Nat) (st : Nat) (fw : Prop) (k : Nat) (p : Nat) : Prop := (fw → p = (st + k) % T) ∧ (¬ fw → p = (st + T - k) % T)
theorem pvp_mod {T m : Nat} (hT : 0 < T) (hm : 1 ≤ m) : pvp T (m % T) = (m - 1) % T := by
  have e := Nat.div_add_mod m T
  have l := Nat.mod_lt m hT
  unfold pvp
  split
  · next c =>
    have : m - 1 = T * (m / T) + (m % T - 1) := by omega
    rw [this, Nat.mul_add_mod, Nat.mod_eq_of_lt (show m % T - 1 < T by omega)]
  · next c =>
    have h0 : m % T = 0 := by omega
    have q1 : 1 ≤ m / T := by
      rcases Nat.lt_or_ge 0 (m / T) with y | y
      · exact y
      · have : m / T = 0 := Nat.le_zero.mp y
        rw [this] at e
        omega
    obtain ⟨q, eq⟩ : ∃ q, m / T = q + 1 := ⟨m / T - 1, by omega⟩
    rw [eq, Nat.mul_add, Nat.mul_one, h0] at e
    have : m - 1 = T * q + (T - 1) := by omega
    rw [this, Nat.mul_add_mod, Nat.mod_eq_of_lt (show T - 1 < T by omega)]
theorem nxp_mm {T m : Nat} (hT : 0 < T) : nxp T (m % T) = (m + 1) % T := by
  rw [← nxp_mod (Nat.mod_lt m hT), Nat.mod_add_mod]
/-- place k of the row as it is written -/
def wpl (T : Nat) (st : Nat) (fw : Bool) (k : Nat) : Nat := if fw = true then (st + k) % T else (st + T - k) % T
theorem wpl_lt {T st k : Nat} {fw : Bool} (hT : 0 < T) : wpl T st fw k < T := by
  unfold wpl
  split <;> exact Nat.mod_lt _ hT
def wst (T : Nat) (r : Nat → Nat) : Nat := amn r T
def wfw (T : Nat) (r : Nat → Nat) : Bool := decide (r (nxp T (wst T r)) < r (pvp T (wst T r)))
def wz (T : Nat) (r : Nat → Nat) (k : Nat) : Nat := r (wpl T (wst T r) (wfw T r) k)
theorem writeOut_ok {K T : Nat} {r : Nat → Nat} {X M : ST} {post : ST → Prop} (hK : K ≤ 12) (ht : TK K T r X M) (hT : T ≤ 8) (h1 : 1 ≤ T) (hp : ∀ f, (∀ i, i < T → f i = nI (wz T r i)) → post (ks_sA X 33 f)) : wp_Told_writeOut X 33 8 post := by
  obtain ⟨t1, t2, t3, t4, t5⟩ := id ht
  have rk : ∀ i, i < T → r i < 12 := fun i hi => by have := (t4 i hi).2.2.1; omega
  have v : ∀ k, k < 12 → vp_in (nI k) 12 := fun k hk => vp_in_nI hk (by decide)
  have g33 : ∀ f, x_Told_count (ks_sA X 33 f) = nI T := fun f => t2
  have loop : ∀ (m k : Nat) (f : Nat → Int32) (l3 : Int32), ((l3 = 1 ∧ wfw T r = true) ∨ (l3 = 0 ∧ wfw T r = false)) → k + m = T → (∀ i, i < k → f i = nI (wz T r i)) → wp_Told_writeOut_70 33 8 (fun X12 => post X12) post (m + 1) (ks_sA X 33 f) l3 (nI (wpl T (wst T r) (wfw T r) k)) (nI k) := by
    intro m
    induction m with
    | zero =>
      intro k f l3 hl hk hf
      exact yes (by rw [g33]; exact nI_le (by omega) (by omega)) (hp f (fun i hi => hf i (by omega)))
    | succ m ih =>
      intro k f l3 hl hk hf
      have wl := wpl_lt (T := T) (st := wst T r) (k := k) (fw := wfw T r) (by omega)
      refine nay (by rw [g33]; exact nI_ge (by omega) (by omega)) (nay (nI_ge (b := 8) (by omega) (by decide)) ⟨v _ (by omega), vp_in_nI (by omega) (by decide), nm ?_⟩)
      rw [sA_sA, gA_sA, nI_clamp (show k < 2 ^ 31 by omega), nI_clamp (show wpl T (wst T r) (wfw T r) k < 2 ^ 31 by omega)]
      have eo : x_Told_order (ks_sA X 33 f) (wpl T (wst T r) (wfw T r) k) = nI (wz T r k) := (t4 _ wl).1
      rw [eo, nI_1]
      have hf' : ∀ i, i < k + 1 → upd f k (nI (wz T r k)) i = nI (wz T r i) := by
        intro i hi
        by_cases y : i = k
        · subst y; rw [pk_us]
        · rw [pk_un y]; exact hf i (by omega)
      rcases hl with ⟨rfl, q⟩ | ⟨rfl, q⟩
      · refine ya2 (after_ok (g33 _) t1 wl ?_)
        have := ih (k + 1) _ 1 (Or.inl ⟨rfl, q⟩) (by omega) hf'
        rw [show nxp T (wpl T (wst T r) (wfw T r) k) = wpl T (wst T r) (wfw T r) (k + 1) by unfold wpl; rw [q, if_pos rfl, if_pos rfl, nxp_mm (by omega)]; rfl]
        exact this
      · refine no2 (before_ok (g33 _) t1 wl ?_)
        have := ih (k + 1) _ 0 (Or.inr ⟨rfl, q⟩) (by omega) hf'
        rw [show pvp T (wpl T (wst T r) (wfw T r) k) = wpl T (wst T r) (wfw T r) (k + 1) by unfold wpl; rw [q, if_neg (by decide), if_neg (by decide), pvp_mod (by omega) (by omega)]; rfl]
        exact this
  have es : ks_sA X 33 (X.2.2.1 33) = X := sA_self X 33
  have fin : ∀ l3 : Int32, ((l3 = 1 ∧ wfw T r = true) ∨ (l3 = 0 ∧ wfw T r = false)) → ∃ n, wp_Told_writeOut_70 33 8 (fun X12 => post X12) post n X l3 (nI (wst T r)) 0 := by
    intro l3 hl
    have st := loop T 0 (X.2.2.1 33) l3 hl (by omega) (fun i hi => absurd hi (by omega))
    have wl : wst T r < T := by
      obtain ⟨q, rfl⟩ : ∃ q, T = q + 1 := ⟨T - 1, by omega⟩
      exact amn_lt r q
    rw [es, show wpl T (wst T r) (wfw T r) 0 = wst T r by
      unfold wpl
      split
      · exact Nat.mod_eq_of_lt wl
      · rw [Nat.sub_zero, Nat.add_mod_right, Nat.mod_eq_of_lt wl]] at st
    exact ⟨_, st⟩
  have am : ∀ (m i : Nat), i + m = T → 1 ≤ i → wp_Told_writeOut_4 33 8 (fun X1 v2 => wp_Told_after X1 v2 (fun r4 X3 => vp_in r4 12 ∧ (wp_Told_before X3 v2 (fun r6 X5 => vp_in r6 12 ∧ (((x_Told_order X5 r6.toNatClampNeg) ≤ (x_Told_order X3 r4.toNatClampNeg) → (∃ n, wp_Told_writeOut_70 33 8 (fun X12 => post X12) post n X5 0 v2 0)) ∧ (¬ (x_Told_order X5 r6.toNatClampNeg) ≤ (x_Told_order X3 r4.toNatClampNeg) → (∃ n, wp_Told_writeOut_70 33 8 (fun X13 => post X13) post n X5 1 v2 0))))))) post (m + 1) X (nI (amn r i)) (nI i) := by
    intro m
    induction m with
    | zero =>
      intro i hi h1i
      have : i = T := by omega
      subst this
      refine yes (by rw [t2]; exact nI_le (Nat.le_refl _) (by omega)) ?_
      have wl : wst i r < i := by
        obtain ⟨q, rfl⟩ : ∃ q, i = q + 1 := ⟨i - 1, by omega⟩
        exact amn_lt r q
      have a1 := nxp_lt wl
      have a2 := pvp_lt wl
      have b1 := rk _ a1
      have b2 := rk _ a2
      rw [show amn r i = wst i r from rfl]
      refine after_ok t2 t1 wl ⟨v _ (by omega), before_ok t2 t1 wl ⟨v _ (by omega), ?_⟩⟩
      rw [nI_clamp (show pvp i (wst i r) < 2 ^ 31 by omega), nI_clamp (show nxp i (wst i r) < 2 ^ 31 by omega), (t4 _ a1).1, (t4 _ a2).1]
      refine bh (fun c => fin 0 (Or.inr ⟨rfl, decide_eq_false ?_⟩)) (fun c => fin 1 (Or.inl ⟨rfl, decide_eq_true ?_⟩))
      · have := (nI_leI (by omega) (by omega)).mp c
        omega
      · have : ¬ r (pvp i (wst i r)) ≤ r (nxp i (wst i r)) := fun z => c (nI_le z (by omega))
        omega
    | succ m ih =>
      intro i hi h1i
      have al : amn r i < i := by
        obtain ⟨q, rfl⟩ : ∃ q, i = q + 1 := ⟨i - 1, by omega⟩
        exact amn_lt r q
      have b1 := rk i (by omega)
      have b2 := rk (amn r i) (by omega)
      refine nay (by rw [t2]; exact nI_ge (by omega) (by omega)) ⟨v _ (by omega), v _ (by omega), ?_⟩
      rw [nI_clamp (show i < 2 ^ 31 by omega), nI_clamp (show amn r i < 2 ^ 31 by omega), (t4 i (by omega)).1, (t4 (amn r i) (by omega)).1, nI_1]
      have st := ih (i + 1) (by omega) (by omega)
      rw [amn_s] at st
      refine bh (fun c => ?_) (fun c => ?_)
      · have c := (nI_leI (by omega) (by omega)).mp c
        rw [if_neg (by omega)] at st
        exact st
      · have c : ¬ r (amn r i) ≤ r i := fun z => c (nI_le z (by omega))
        rw [if_pos (by omega)] at st
        exact st
  have st := am (T - 1) 1 (by omega) (by omega)
  have a1 : amn r 1 = 0 := by
    have : amn r 1 < 1 := amn_lt r 0
    omega
  rw [a1] at st
  exact ⟨_, st⟩
theorem mwrite_ok {K T : Nat} {r : Nat → Nat} {X M : ST} {post : ST → Prop} (hK : K ≤ 12) (ht : TK K T r X M) (h1 : 1 ≤ T) (hp : ∀ f, (∀ i, i < T → f i = nI (wz T r i)) → post (ms_written M f)) : wp_m_write M post := by
  obtain ⟨t1, t2, t3, t4, t5⟩ := id ht
  have rk : ∀ i, i < T → r i < 12 := fun i hi => by have := (t4 i hi).2.2.1; omega
  have v : ∀ k, k < 12 → vp_in (nI k) 12 := fun k hk => vp_in_nI hk (by decide)
  have gt : ∀ f, m_told (ms_written M f) = nI T := fun f => t3
  have loop : ∀ (m k : Nat) (f : Nat → Int32) (l3 : Int32), ((l3 = 1 ∧ wfw T r = true) ∨ (l3 = 0 ∧ wfw T r = false)) → wst T r < T → k + m = T → (∀ i, i < k → f i = nI (wz T r i)) → wp_m_write_81 (fun M5 => post M5) post (m + 1) (ms_written M f) (nI (wst T r)) l3 (nI k) := by
    intro m
    induction m with
    | zero =>
      intro k f l3 hl wl hk hf
      exact yes (by rw [gt]; exact nI_le (by omega) (by omega)) (hp f (fun i hi => hf i (by omega)))
    | succ m ih =>
      intro k f l3 hl wl hk hf
      have pl := wpl_lt (T := T) (st := wst T r) (k := k) (fw := wfw T r) (by omega)
      have hf' : ∀ i, i < k + 1 → upd f k (nI (wz T r k)) i = nI (wz T r i) := by
        intro i hi
        by_cases y : i = k
        · subst y; rw [pk_us]
        · rw [pk_un y]; exact hf i (by omega)
      have go := ih (k + 1) _ l3 hl wl (by omega) hf'
      refine nay (by rw [gt]; exact nI_ge (by omega) (by omega)) ?_
      have e2 : ∀ g, ms_written (ms_written M f) g = ms_written M g := fun g => sA_sA _ _ _ _
      have eg : m_written (ms_written M f) = f := gA_sA _ _ _
      have er : ∀ p, p < T → m_round (ms_written M f) p = nI (r p) := fun p hp => (t4 p hp).2.1
      rw [gt]
      rcases hl with ⟨rfl, q⟩ | ⟨rfl, q⟩
      · have ew : wpl T (wst T r) (wfw T r) k = (wst T r + k) % T := by unfold wpl; rw [if_pos q]
        refine ya2 ?_
        rw [nI_add, pk_rem (by omega) (by omega) (by omega), ← ew]
        refine ⟨nI_ne0 (by omega) (by omega), v _ (by omega), v _ (by omega), nm ?_⟩
        rw [e2, eg, nI_clamp (show k < 2 ^ 31 by omega), nI_clamp (show wpl T (wst T r) (wfw T r) k < 2 ^ 31 by omega), er _ pl, nI_1]
        exact go
      · have ew : wpl T (wst T r) (wfw T r) k = (wst T r + T - k) % T := by unfold wpl; rw [if_neg (by rw [q]; decide)]
        have es : nI (wst T r) + nI T - nI k = nI (wst T r + T - k) := by
          rw [nI_add]
          have : wst T r + T = wst T r + T - k + k := by omega
          rw [this, ← nI_add]
          rw [show wst T r + T - k + k - k = wst T r + T - k by omega]
          exact Int32.add_sub_cancel _ _
        refine no2 ?_
        rw [es, pk_rem (by omega) (by omega) (by omega), ← ew]
        refine ⟨nI_ne0 (by omega) (by omega), v _ (by omega), v _ (by omega), nm ?_⟩
        rw [e2, eg, nI_clamp (show k < 2 ^ 31 by omega), nI_clamp (show wpl T (wst T r) (wfw T r) k < 2 ^ 31 by omega), er _ pl, nI_1]
        exact go
  have es : ms_written M (m_written M) = M := sA_self M 66
  have fin : ∀ l3 : Int32, ((l3 = 1 ∧ wfw T r = true) ∨ (l3 = 0 ∧ wfw T r = false)) → wst T r < T → ∃ n, wp_m_write_81 (fun M5 => post M5) post n M (nI (wst T r)) l3 0 := by
    intro l3 hl wl
    have st := loop T 0 (m_written M) l3 hl wl (by omega) (fun i hi => absurd hi (by omega))
    rw [es] at st
    exact ⟨_, st⟩
  have am : ∀ (m i : Nat), i + m = T → 1 ≤ i → wp_m_write_4 (fun M1 v2 => ¬ (m_told M1) = 0 ∧ (vp_in ((v2 + 1) - (v2 + 1) / (m_told M1) * (m_told M1)) 12 ∧ (¬ (m_told M1) = 0 ∧ (vp_in (((v2 + (m_told M1)) - 1) - ((v2 + (m_told M1)) - 1) / (m_told M1) * (m_told M1)) 12 ∧ (((m_round M1 (((v2 + (m_told M1)) - 1) - ((v2 + (m_told M1)) - 1) / (m_told M1) * (m_told M1)).toNatClampNeg) ≤ (m_round M1 ((v2 + 1) - (v2 + 1) / (m_told M1) * (m_told M1)).toNatClampNeg) → (∃ n, wp_m_write_81 (fun M5 => post M5) post n M1 v2 0 0)) ∧ (¬ (m_round M1 (((v2 + (m_told M1)) - 1) - ((v2 + (m_told M1)) - 1) / (m_told M1) * (m_told M1)).toNatClampNeg) ≤ (m_round M1 ((v2 + 1) - (v2 + 1) / (m_told M1) * (m_told M1)).toNatClampNeg) → (∃ n, wp_m_write_81 (fun M6 => post M6) post n M1 v2 1 0))))))) post (m + 1) M (nI (amn r i)) (nI i) := by
    intro m
    induction m with
    | zero =>
      intro i hi h1i
      have : i = T := by omega
      subst this
      refine yes (by rw [t3]; exact nI_le (Nat.le_refl _) (by omega)) ?_
      have wl : wst i r < i := by
        obtain ⟨q, rfl⟩ : ∃ q, i = q + 1 := ⟨i - 1, by omega⟩
        exact amn_lt r q
      have a1 := nxp_lt wl
      have a2 := pvp_lt wl
      have b1 := rk _ a1
      have b2 := rk _ a2
      show ¬ (m_told M) = 0 ∧ _
      have en : (nI (wst i r) + 1) - (nI (wst i r) + 1) / nI i * nI i = nI (nxp i (wst i r)) := by
        rw [nI_1, pk_rem (by omega) (by omega) (by omega), nxp_mod wl]
      have ep : ((nI (wst i r) + nI i) - 1) - ((nI (wst i r) + nI i) - 1) / nI i * nI i = nI (pvp i (wst i r)) := by
        rw [nI_add, n1 (by omega), pk_rem (by omega) (by omega) (by omega), ← pvp_mod (by omega) (by omega), Nat.add_mod_right, Nat.mod_eq_of_lt wl]
      rw [t3]
      show _ ∧ vp_in ((nI (wst i r) + 1) - (nI (wst i r) + 1) / nI i * nI i) 12 ∧ _ ∧ vp_in (((nI (wst i r) + nI i) - 1) - ((nI (wst i r) + nI i) - 1) / nI i * nI i) 12 ∧ (m_round M (((nI (wst i r) + nI i) - 1) - ((nI (wst i r) + nI i) - 1) / nI i * nI i).toNatClampNeg ≤ m_round M ((nI (wst i r) + 1) - (nI (wst i r) + 1) / nI i * nI i).toNatClampNeg → ∃ n, wp_m_write_81 (fun M5 => post M5) post n M (nI (wst i r)) 0 0) ∧ (¬ m_round M (((nI (wst i r) + nI i) - 1) - ((nI (wst i r) + nI i) - 1) / nI i * nI i).toNatClampNeg ≤ m_round M ((nI (wst i r) + 1) - (nI (wst i r) + 1) / nI i * nI i).toNatClampNeg → ∃ n, wp_m_write_81 (fun M6 => post M6) post n M (nI (wst i r)) 1 0)
      rw [en, ep, nI_clamp (show pvp i (wst i r) < 2 ^ 31 by omega), nI_clamp (show nxp i (wst i r) < 2 ^ 31 by omega), (t4 _ a1).2.1, (t4 _ a2).2.1]
      refine ⟨nI_ne0 (by omega) (by omega), v _ (by omega), nI_ne0 (by omega) (by omega), v _ (by omega), bh (fun c => fin 0 (Or.inr ⟨rfl, decide_eq_false ?_⟩) wl) (fun c => fin 1 (Or.inl ⟨rfl, decide_eq_true ?_⟩) wl)⟩
      · have := (nI_leI (by omega) (by omega)).mp c
        omega
      · have : ¬ r (pvp i (wst i r)) ≤ r (nxp i (wst i r)) := fun z => c (nI_le z (by omega))
        omega
    | succ m ih =>
      intro i hi h1i
      have al : amn r i < i := by
        obtain ⟨q, rfl⟩ : ∃ q, i = q + 1 := ⟨i - 1, by omega⟩
        exact amn_lt r q
      have b1 := rk i (by omega)
      have b2 := rk (amn r i) (by omega)
      refine nay (by rw [t3]; exact nI_ge (by omega) (by omega)) ⟨v _ (by omega), v _ (by omega), ?_⟩
      rw [nI_clamp (show i < 2 ^ 31 by omega), nI_clamp (show amn r i < 2 ^ 31 by omega), (t4 i (by omega)).2.1, (t4 (amn r i) (by omega)).2.1, nI_1]
      have st := ih (i + 1) (by omega) (by omega)
      rw [amn_s] at st
      refine bh (fun c => ?_) (fun c => ?_)
      · have c := (nI_leI (by omega) (by omega)).mp c
        rw [if_neg (by omega)] at st
        exact st
      · have c : ¬ r (amn r i) ≤ r i := fun z => c (nI_le z (by omega))
        rw [if_pos (by omega)] at st
        exact st
  have st := am (T - 1) 1 (by omega) (by omega)
  have a1 : amn r 1 = 0 := by
    have : amn r 1 < 1 := amn_lt r 0
    omega
  rw [a1] at st
  exact ⟨_, st⟩
theorem ls_second (n : Nat) (X M : ST) (_ : n < 512) (h : Inv n X M) : wp_LR_second X (fun r X1 => wp_m_second M (fun q M1 => r = q ∧ Inv (n + 1) X1 M1)) := by
  have hu := h.up
  obtain ⟨d, hd⟩ := h
  obtain ⟨K, hk, hm⟩ := hd.ml
  have hK := hm.1
  have hc := cn_le (lv M) K
  obtain ⟨T, r, ht⟩ := hd.2.2.2.2.2.1.tk hm.2.1 hK
  have hT := ht.1
  refine isWhole_ok hk ht (fun q => no1 (misWhole_ok hk ht (fun _ => no1 ⟨rfl, hu⟩) (fun a b => absurd ⟨a, b⟩ q))) (fun q1 q2 => ya1 ?_)
  have mw : ∀ {P : Int32 → ST → Prop}, P 1 M → wp_m_isWhole M P := fun hP => misWhole_ok hk ht (fun z => absurd ⟨q1, q2⟩ z) (fun _ _ => hP)
  refine isLarge_ok hk (fun c8 => no2 ?_) (fun c8 => ya2 (mw (ya1 (lit_ok hk (nay (nI_ge (a := 8) c8 (by omega)) ⟨rfl, hu⟩)))))
  refine begin_ok hd hm hk c8 (fun X1 X2 hX1 sv fx se hbl => ?_)
  have ht2 : TK K T r X2 M := FX.told fx (ht.sv sv)
  refine writeOut_ok hK ht2 (by omega) (by omega) (fun f hf => nm ?_)
  have fx2 : FX X1 (xs_Search_shuns (ks_sA X2 33 f) 1) := (fx.sA (by decide) _).sI (by decide) _
  have wzk : ∀ i, i < T → wz T r i < 12 := fun i hi => by
    have := (ht.2.2.2.1 _ (wpl_lt (T := T) (st := wst T r) (k := i) (fw := wfw T r) (by omega))).2.2.1
    unfold wz
    omega
  refine same2_ok (e := en (lv M) K) (mu := mu0 M d K) (ba := fun _ _ => false) (SH := fun s => ∀ i, i < T → s i = wz T r i) (EX := fun s => ¬ ∀ i, i < cn (lv M) K → s i = wz T r i) (w := 1) (a := 0) (b := 0) (W := fun g => ∀ i, i < T → g i = nI (wz T r i)) (F := fun P => wp_m_second M P) (Ev_mk hm) c8 (FX.inv fx2 hX1) ?_ hbl (fun _ s rs => iff0 hm rs (by rw [q1])) (fun g hg => HX1 (z := wz T r) (hm.wr g) (fun i hi => ⟨(congrFun (gA_sA M 66 g) i).trans (hg i (by omega)), wzk i (by omega)⟩)) (fun s s' e q z => q (fun i hi => (e i hi).trans (z i hi))) (fun P hP => mw (ya1 (lit_ok hk (yes (nI_le (b := 8) c8 (by decide)) (mwrite_ok hK ht (by omega) (fun g hg => hP g hg))))))
  refine ⟨se.1, se.2.1, fun x y hx hy => se.2.2.1 x y hx hy, se.2.2.2.1, se.2.2.2.2.1, Or.inr ⟨(by decide : ¬ (1 : Int32) = 0), wz T r, fun i hi => ⟨?_, wzk i (by omega)⟩, fun s => by rw [q1]⟩⟩
  show ks_up X2.2.2.1 33 f 33 i = _
  rw [ks_up_eq]
  exact hf i (by omega)
