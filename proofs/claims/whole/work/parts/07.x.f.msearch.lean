/-! PURE: the model tries all orders -/
abbrev FQ : ST → ST → Prop := Fe [] [] [64, 65] []
theorem FQ.fm {M M' : ST} (s : FQ M M') : FM M M' := s.up (fun k hk => absurd hk (List.not_mem_nil)) (fun k hk => hk) (fun k hk => by simp only [List.mem_cons, List.not_mem_nil, or_false] at hk ⊢; omega) (fun k hk => hk)
/-- what the model asks of a ROUND -/
def GM (M : ST) (d : Nat → Nat → Nat) (K n : Nat) (EX : (Nat → Nat) → Prop) (s : Nat → Nat) : Prop := s 1 < s (n - 1) ∧ KT M d K n s ∧ EX s
theorem KT_congr {M : ST} {d : Nat → Nat → Nat} {K n : Nat} {s s' : Nat → Nat} (e : ∀ i, i < n → s i = s' i) (h : KT M d K n s) : KT M d K n s' := fun i hi j hj q => h i hi j hj (by rw [e i hi, e j hj]; exact q)
theorem GM_congr {M : ST} {d : Nat → Nat → Nat} {K n : Nat} {EX : (Nat → Nat) → Prop} {s s' : Nat → Nat} (h3 : 3 ≤ n) (hx : ∀ s s', (∀ i, i < n → s i = s' i) → EX s → EX s') (e : ∀ i, i < n → s i = s' i) (h : GG M d n (GM M d K n EX) s) : GG M d n (GM M d K n EX) s' := by
  refine ⟨fun i hi => ?_, ?_, KT_congr e h.2.2.1, hx s s' e h.2.2.2⟩
  · rw [← e i hi, ← e _ (nxp_lt hi)]; exact h.1 i hi
  · rw [← e 1 (by omega), ← e (n - 1) (by omega)]; exact h.2.1
/-- how the model tells whether what is asked beside TWINS holds -/
def HX (M : ST) (K n : Nat) (e : Nat → Nat) (EX : (Nat → Nat) → Prop) (w a b : Int32) : Prop := ∀ (Y : ST) (o : Nat → Nat), FQ M Y → (∀ i, i < n → m_order Y i = nI (o i)) → RS M K n e o → ∀ (K59 : ST → Int32 → Int32 → Int32 → Int32 → Int32 → Int32 → Prop) (post : Int32 → ST → Prop) (l5 l7 : Int32), (EX o → wp_m_search_174 K59 post Y w a b (nI n) l5 l7) → (¬ EX o → wp_m_search_178 K59 post Y w a b (nI n) l5 l7) → wp_m_search_124 K59 post Y w a b (nI n) l5 l7 1
theorem mloop_ok {M : ST} {d : Nat → Nat → Nat} {K n : Nat} {e : Nat → Nat} {EX : (Nat → Nat) → Prop} {w a b : Int32} {K231 : ST → Int32 → Prop} {post : Int32 → ST → Prop} (ev : Ev M d K n e) (h3 : 3 ≤ n) (hx : HX M K n e EX w a b) (hc : ∀ s s', (∀ i, i < n → s i = s' i) → EX s → EX s') (h0 : ∀ M', FQ M M' → (∀ s, RS M K n e s → ¬ GG M d n (GM M d K n EX) s) → K231 M' 1000000000) (h1 : ∀ M' r, FQ M M' → Opt M d K n e (GG M d n (GM M d K n EX)) r → (∀ i, i < n → m_best M' i = nI (r i)) → K231 M' (nI (cst M d n r))) : ∀ (m : Nat) (Y : ST) (o : Nat → Nat) (B : Nat), 16 ^ n ≤ vl o n + m → FQ M Y → (∀ i, i < n → m_order Y i = nI (o i)) → RS M K n e o → B < 2 ^ 31 → BS (GG M d n (GM M d K n EX)) (cst M d n) n (VS M K n e n (vl o n)) 1000000000 B (m_best Y) → B ≤ 1000000000 → wp_m_search_59 K231 post (m + 1) Y w a b (nI n) (nI B) 1 := by
  have hm := ev.1
  have hK := hm.1
  intro m
  induction m with
  | zero =>
    intro Y o B hv fq ho rs
    have := vl_max n (rs.d hK)
    omega
  | succ m ih =>
    intro Y o B hv fq ho rs hB bs hB2
    have hn := rs.1.n12 hK
    have od := rs.d hK
    have ok := rs.k
    have v : ∀ k, k < 12 → vp_in (nI k) 12 := fun k hk => vp_in_nI hk (by decide)
    have cl := cst_le hm rs
    have agree : ∀ s, VS M K n e n (vl o n + 1) s → ¬ VS M K n e n (vl o n) s → ∀ i, i < n → s i = o i := by
      intro s h1 h2
      refine vl_inj n (h1.1.d hK) od ?_
      have : ¬ vl s n < vl o n := fun q => h2 ⟨h1.1, q⟩
      have := h1.2
      omega
    -- on to the next order
    have nxt : ∀ Y' B', FQ M Y' → (∀ i, i < n → m_order Y' i = nI (o i)) → B' < 2 ^ 31 → B' ≤ 1000000000 → BS (GG M d n (GM M d K n EX)) (cst M d n) n (VS M K n e n (vl o n + 1)) 1000000000 B' (m_best Y') → wp_m_nextOrder Y' (nI n) (fun r8 M7 => wp_m_search_59 K231 post (m + 1) M7 w a b (nI n) (nI B') r8) := by
      intro Y' B' fq' ho' hB' hB2' bs'
      have go := nextOrder_ok (M := Y') (f := m_order Y') (r := o) (post := fun r8 M7 => wp_m_search_59 K231 post (m + 1) M7 w a b (nI n) (nI B') r8) hn h3 ho' (fun k hk => by have := ok k hk; omega) rs.1.2.2 (fun q => ?_) (fun i j f' q hf' => ?_)
      · rw [mords] at go; exact go
      · rw [mords]
        refine yes rfl ?_
        have all : ∀ s, RS M K n e s → VS M K n e n (vl o n + 1) s := fun s q2 => ⟨q2, by have := next_none hK rs.1 q2.1 (rs.2.trans q2.2.symm) q; omega⟩
        rcases bs' with ⟨b1, b2⟩ | ⟨r, b1, b2, b3, b4, b5⟩
        · subst b1
          exact h0 Y' fq' (fun s q2 => b2 s (all s q2))
        · subst b3
          exact h1 Y' r fq' ⟨b1.1, b2, fun s q2 g => b5 s (all s q2) g⟩ b4
      · have lt := next_lt q od
        have pr' := next_pr rs.1 q
        have rs' : RS M K n e (nxo n o i j) := ⟨pr', by rw [nxo_lo q (by have := q.1; omega)]; exact rs.2⟩
        refine ih (ms_order Y' f') (nxo n o i j) B' (by omega) (fq'.sA (by decide) _) (fun k hk => ?_) rs' hB' (bs'.same (fun s => ?_)) hB2'
        · rw [mordg]; exact hf' k hk
        · constructor
          · exact fun z => ⟨z.1, by have := z.2; omega⟩
          · intro z
            refine ⟨z.1, ?_⟩
            rcases Nat.lt_or_ge (vl o n) (vl s n) with y | y
            · have := next_ge hK rs.1 z.1.1 q y
              have := z.2
              omega
            · omega
    -- this order is none to be kept
    have rej : (GG M d n (GM M d K n EX) o → B ≤ cst M d n o) → ∀ l7, wp_m_search_178 (wp_m_search_59 K231 post (m + 1)) post Y w a b (nI n) (nI B) l7 := by
      intro hr l7
      refine no2 (nxt Y B fq ho hB hB2 (bs.ext (fun s q => ⟨q.1, by have := q.2; omega⟩) (fun s q1 q2 g => ?_)))
      have ag := agree s q1 q2
      have ec : cst M d n s = cst M d n o := lsum_congr ag
      have evl : vl s n = vl o n := vl_congr n ag
      have := hr (GM_congr h3 hc ag g)
      exact ⟨by omega, by omega, fun r hr => by have := hr.2; omega⟩
    have acc : GG M d n (GM M d K n EX) o → cst M d n o < B → wp_m_search_174 (wp_m_search_59 K231 post (m + 1)) post Y w a b (nI n) (nI B) (nI (cst M d n o)) := by
      intro g lt
      refine ya2 ?_
      have copy : ∀ (q i : Nat) (f : Nat → Int32), i + q = n → (∀ k, k < i → f k = nI (o k)) → wp_m_search_193 (fun M10 v11 v12 v13 v14 v15 => wp_m_nextOrder M10 v14 (fun r17 M16 => wp_m_search_59 K231 post (m + 1) M16 v11 v12 v13 v14 v15 r17)) post (q + 1) (ms_best Y f) w a b (nI n) (nI (cst M d n o)) (nI i) := by
        intro q
        induction q with
        | zero =>
          intro i f hi hf
          refine yes (nI_le (by omega) (by omega)) (nxt (ms_best Y f) (cst M d n o) (fq.sA (by decide) _) ho (by omega) (by omega) ?_)
          refine bs.new (p := o) ⟨rs, by omega⟩ g lt (fun i hi => ?_) (fun s q => ?_)
          · show ks_up Y.2.2.1 65 f 65 i = _
            rw [ks_up_eq]; exact hf i (by omega)
          · by_cases z : VS M K n e n (vl o n) s
            · exact Or.inl z
            · have ag := agree s q z
              exact Or.inr ⟨lsum_congr ag, vl_congr n ag⟩
        | succ q ihq =>
          intro i f hi hf
          refine nay (nI_ge (by omega) (by omega)) ⟨v _ (by omega), v _ (by omega), nm ?_⟩
          rw [show ∀ g, ms_best (ms_best Y f) g = ms_best Y g from fun g => sA_sA _ _ _ _, show m_best (ms_best Y f) = f from gA_sA _ _ _, nI_clamp (show i < 2 ^ 31 by omega), nI_1]
          refine ihq (i + 1) _ (by omega) (fun k hk => ?_)
          by_cases y : k = i
          · subst y; rw [pk_us]; exact ho k (by omega)
          · rw [pk_un y]; exact hf k (by omega)
      have st := copy n 0 (m_best Y) (by omega) (fun k hk => absurd hk (by omega))
      rw [show ms_best Y (m_best Y) = Y from sA_self Y 65] at st
      exact ⟨_, st⟩
    have out : (GG M d n (GM M d K n EX) o → B ≤ cst M d n o) → ∀ l7, wp_m_search_123 (wp_m_search_59 K231 post (m + 1)) post Y w a b (nI n) (nI B) l7 := fun hr l7 => no2 (rej hr l7)
    have fm := fq.fm
    have hmY := fm.ml hm
    refine ya2 ⟨v 1 (by omega), ?_⟩
    have z1 : m_order Y (1 : Int32).toNatClampNeg = nI (o 1) := ho 1 (by omega)
    have o1 := ok 1 (by omega)
    have ol := ok (n - 1) (by omega)
    rw [n1 (by omega), nI_clamp (show n - 1 < 2 ^ 31 by omega), z1, ho (n - 1) (by omega)]
    refine ⟨v _ (by omega), bh (fun c => yes (nI_le (b := 1000000000) hB2 (by decide)) (out (fun g => ?_) _)) (fun c => ?_)⟩
    · have := (nI_leI (by omega) (by omega)).mp c
      have := g.2.1
      omega
    · have c : ¬ o (n - 1) ≤ o 1 := fun z => c (nI_le z (by omega))
      refine lengthOf_ok hmY (fun i hi => ⟨ho i hi, ok i hi⟩) hn (fun far => yes (nI_le (b := 1000000000) hB2 (by decide)) (out (fun g => ?_) _)) (fun fin => ?_)
      · obtain ⟨i, i1, i2⟩ := far
        rw [fm.w d] at i2
        exact absurd i2 (g.1 i i1)
      · rw [fm.w d] at fin ⊢
        show wp_m_search_97 _ _ _ _ _ _ _ _ (nI (cst M d n o))
        refine bh (fun c2 => out (fun _ => (nI_leI hB (by omega)).mp c2) _) (fun c2 => mkeepsTwins_ok hmY (fm.pr rs.1) ho (fun kt => ya2 ?_) (fun kt => no2 (out (fun g => absurd (fm.kt.mpr g.2.2.1) kt) _)))
        have c2 : ¬ B ≤ cst M d n o := fun z => c2 (nI_le z (by omega))
        have kt' := fm.kt.mp kt
        exact hx Y o fq ho rs _ post _ _ (fun x => acc ⟨fin, by omega, kt', x⟩ (by omega)) (fun x => rej (fun g => absurd g.2.2.2 x) _)
theorem msearch_ok {M : ST} {d : Nat → Nat → Nat} {K n : Nat} {e : Nat → Nat} {EX : (Nat → Nat) → Prop} {w a b : Int32} {post : Int32 → ST → Prop} (ev : Ev M d K n e) (hx : 3 ≤ n → HX M K n e EX w a b) (hc : ∀ s s', (∀ i, i < n → s i = s' i) → EX s → EX s') (h0 : ∀ M', FQ M M' → (n < 3 ∨ ∀ s, RS M K n e s → ¬ GG M d n (GM M d K n EX) s) → post 1000000000 M') (h1 : ∀ M' r, FQ M M' → 3 ≤ n → Opt M d K n e (GG M d n (GM M d K n EX)) r → (∀ i, i < n → m_best M' i = nI (r i)) → post (nI (cst M d n r)) M') : wp_m_search M w a b post := by
  have hm := ev.1
  have hK := hm.1
  have hn : n ≤ 12 := ev.pr.n12 hK
  have v : ∀ k, k < 12 → vp_in (nI k) 12 := fun k hk => vp_in_nI hk (by decide)
  have go : ∀ (m i : Nat) (f : Nat → Int32), i + m = K → (∀ l, l < i → m_isOut M l = 0 → f (cn (lv M) l) = nI l) → wp_m_search_6 (fun M2 v3 v4 v5 v6 => (3 ≤ v6 → (∃ n, wp_m_search_59 (fun M26 v27 => post v27 M26) post n M2 v3 v4 v5 v6 1000000000 1)) ∧ (¬ 3 ≤ v6 → (post 1000000000 M2))) post (m + 1) (ms_order M f) w a b (nI (cn (lv M) i)) (nI i) := by
    intro m
    induction m with
    | zero =>
      intro i f hi hf
      have : i = K := by omega
      subst this
      have fq : FQ M (ms_order M f) := (Fe.rf M).sA (by decide) _
      refine yes (by rw [show m_lamps (ms_order M f) = nI i from hm.2.1]; exact nI_le (Nat.le_refl _) (by omega)) ?_
      rw [← ev.2.1]
      refine bh (fun c => ?_) (fun c => h0 _ fq (Or.inl ?_))
      · have h3 : 3 ≤ n := (nI_leI (a := 3) (by decide) (by omega)).mp c
        have ee := ev.arr (f := f) hf
        exact ⟨_, mloop_ok ev h3 (hx h3) hc (fun M' q z => h0 M' q (Or.inr z)) (fun M' r q o z => h1 M' r q h3 o z) (16 ^ n) (ms_order M f) e 1000000000 (by omega) fq (fun i hi => by rw [mordg]; exact ee i hi) ⟨ev.pr, rfl⟩ (by decide) (Or.inl ⟨rfl, fun s q => by have := first_row ev q.1.1; have := q.2; omega⟩) (Nat.le_refl _)⟩
      · rcases Nat.lt_or_ge n 3 with q | q
        · exact q
        · exact absurd (nI_le (a := 3) q (by omega)) c
    | succ m ih =>
      intro i f hi hf
      refine nay (by rw [show m_lamps (ms_order M f) = nI K from hm.2.1]; exact nI_ge (by omega) (by omega)) ⟨v _ (by omega), ?_⟩
      rw [nI_clamp (show i < 2 ^ 31 by omega), show m_isOut (ms_order M f) i = m_isOut M i from rfl, nI_1]
      refine bn (fun c => ?_) (fun c => ?_)
      · have := ih (i + 1) f (by omega) (fun l hl ho => hf l (by
          by_cases y : l = i
          · subst y; exact absurd ho c
          · omega) ho)
        rw [cn_s, if_neg (by rw [lv_t]; exact c), Nat.add_zero] at this
        exact this
      · have lt : cn (lv M) i < n := by rw [ev.2.1]; exact cn_lt (lv M) (by omega) (lv_t.mpr c)
        refine ⟨v _ (by omega), nm ?_⟩
        rw [mord2, mordg, nI_clamp (show cn (lv M) i < 2 ^ 31 by omega), nI_1]
        have := ih (i + 1) (upd f (cn (lv M) i) (nI i)) (by omega) (fun l hl ho => ?_)
        · rw [cn_s, if_pos (lv_t.mpr c)] at this
          exact this
        · by_cases y : l = i
          · subst y; rw [pk_us]
          · have : cn (lv M) l ≠ cn (lv M) i := by
              have := cn_lt (lv M) (show l < i by omega) (lv_t.mpr ho)
              omega
            rw [pk_un this]; exact hf l (by omega) ho
  have st := go K 0 (m_order M) (by omega) (fun l hl => absurd hl (by omega))
  rw [mords] at st
  exact ⟨_, st⟩
theorem HX0 {M : ST} {K n : Nat} {e : Nat → Nat} {a b : Int32} : HX M K n e (fun _ => True) 0 a b := fun Y o fq ho rs K59 post l5 l7 p1 p0 => ya2 (nay' (by decide) (yes (by decide) (p1 trivial)))
/-- two LAMPS side by side -/
def Bes (n : Nat) (a b : Nat) (s : Nat → Nat) : Prop := ∃ i j, i < n ∧ j < n ∧ s i = a ∧ s j = b ∧ (j = nxp n i ∨ j = pvp n i)
theorem Bes_congr {n a b : Nat} (s s' : Nat → Nat) (e : ∀ i, i < n → s i = s' i) (h : Bes n a b s) : Bes n a b s' := by
  obtain ⟨i, j, h1, h2, h3, h4, h5⟩ := h
  exact ⟨i, j, h1, h2, by rw [← e i h1]; exact h3, by rw [← e j h2]; exact h4, h5⟩
theorem Bes_at {M : ST} {K n a b i j : Nat} {s : Nat → Nat} (h : PR M K n s) (hi : i < n) (hj : j < n) (ei : s i = a) (ej : s j = b) : Bes n a b s ↔ (j = nxp n i ∨ j = pvp n i) := by
  constructor
  · rintro ⟨i', j', h1, h2, h3, h4, h5⟩
    have a1 := h.2.2 i i' hi h1 (ei.trans h3.symm)
    have a2 := h.2.2 j j' hj h2 (ej.trans h4.symm)
    subst a1; subst a2
    exact h5
  · exact fun q => ⟨i, j, hi, hj, ei, ej, q⟩
theorem mbeside_ok {M Y : ST} {d : Nat → Nat → Nat} {K n a b : Nat} {e o : Nat → Nat} {post : Int32 → ST → Prop} (hm : ML d K M) (rs : RS M K n e o) (ho : ∀ i, i < n → m_order Y i = nI (o i)) (ha : a < K) (hb : b < K) (oa : m_isOut M a = 0) (ob : m_isOut M b = 0) (hab : a ≠ b) (h1 : Bes n a b o → post 1 Y) (h0 : ¬ Bes n a b o → post 0 Y) : wp_m_areBeside Y 64 12 (nI n) (nI a) (nI b) post := by
  have hK := hm.1
  obtain ⟨i, hi, ei⟩ := rs.1.full ha oa
  obtain ⟨j, hj, ej⟩ := rs.1.full hb ob
  rw [← ei, ← ej]
  have iff := Bes_at rs.1 hi hj ei ej
  exact areBeside_ok (rs.1.n12 hK) (fun i hi => ⟨ho i hi, by have := rs.k i hi; omega⟩) rs.1.2.2 hi hj (fun q => by subst q; exact hab (ei.symm.trans ej)) (fun q => h1 (iff.mpr q)) (fun q => h0 (fun z => q (iff.mp z)))
theorem HX2 {M : ST} {d : Nat → Nat → Nat} {K n a b : Nat} {e : Nat → Nat} (hm : ML d K M) (ha : a < K) (hb : b < K) (oa : m_isOut M a = 0) (ob : m_isOut M b = 0) (hab : a ≠ b) : HX M K n e (Bes n a b) 2 (nI a) (nI b) := fun Y o fq ho rs K59 post l5 l7 p1 p0 => ya2 (nay' (by decide) (nay (by decide) (mbeside_ok hm rs ho ha hb oa ob hab (fun q => yes' rfl (yes' rfl (p1 q))) (fun q => yes' rfl (nay' (by decide) (p0 q))))))
theorem HX3 {M : ST} {d : Nat → Nat → Nat} {K n a b : Nat} {e : Nat → Nat} (hm : ML d K M) (ha : a < K) (hb : b < K) (oa : m_isOut M a = 0) (ob : m_isOut M b = 0) (hab : a ≠ b) : HX M K n e (fun s => ¬ Bes n a b s) 3 (nI a) (nI b) := fun Y o fq ho rs K59 post l5 l7 p1 p0 => ya2 (nay' (by decide) (nay (by decide) (mbeside_ok hm rs ho ha hb oa ob hab (fun q => nay' (by decide) (nay' (by decide) (p0 (fun z => z q)))) (fun q => nay' (by decide) (yes' rfl (p1 q))))))
theorem isWritten_ok {Y : ST} {n : Nat} {o z : Nat → Nat} {post : Int32 → ST → Prop} (hn : n ≤ 12) (ho : ∀ i, i < n → m_order Y i = nI (o i) ∧ o i < 12) (hz : ∀ i, i < n → m_written Y i = nI (z i) ∧ z i < 12) (h1 : (∀ i, i < n → o i = z i) → post 1 Y) (h0 : ¬ (∀ i, i < n → o i = z i) → post 0 Y) : wp_m_isWritten Y (nI n) post := by
  have a11 : (1 : Int32) &&& 1 = 1 := by decide
  have a01 : (0 : Int32) &&& 1 = 0 := by decide
  have a10 : (1 : Int32) &&& 0 = 0 := by decide
  have a00 : (0 : Int32) &&& 0 = 0 := by decide
  have go : ∀ (m i : Nat) (s : Int32), i + m = n → ((s = 1 ∧ ∀ j, j < i → o j = z j) ∨ (s = 0 ∧ ¬ ∀ i, i < n → o i = z i)) → wp_m_isWritten_4 (fun M3 v4 => bz v4 ∧ post v4 M3) post (m + 1) Y (nI n) s (nI i) := by
    intro m
    induction m with
    | zero =>
      intro i s hi hs
      have : i = n := by omega
      subst this
      refine yes (nI_le (Nat.le_refl _) (by omega)) ?_
      rcases hs with ⟨rfl, q⟩ | ⟨rfl, q⟩
      · exact ⟨Or.inr rfl, h1 q⟩
      · exact ⟨Or.inl rfl, h0 q⟩
    | succ m ih =>
      intro i s hi hs
      have oi := ho i (by omega)
      have zi := hz i (by omega)
      refine nay (nI_ge (by omega) (by omega)) ⟨vp_in_nI (by omega) (by decide), vp_in_nI (by omega) (by decide), ?_⟩
      rw [nI_clamp (show i < 2 ^ 31 by omega), oi.1, zi.1, nI_1]
      refine bn (fun c => nm ?_) (fun c => nm ?_)
      · have c : o i ≠ z i := fun q => c (by rw [q])
        have no : ¬ ∀ i, i < n → o i = z i := fun q => c (q i (by omega))
        rcases hs with ⟨rfl, q⟩ | ⟨rfl, q⟩
        · rw [a10]; exact ih (i + 1) 0 (by omega) (Or.inr ⟨rfl, no⟩)
        · rw [a00]; exact ih (i + 1) 0 (by omega) (Or.inr ⟨rfl, no⟩)
      · have c := (nI_eq (by omega) (by omega)).mp c
        rcases hs with ⟨rfl, q⟩ | ⟨rfl, q⟩
        · rw [a11]
          refine ih (i + 1) 1 (by omega) (Or.inl ⟨rfl, fun j hj => ?_⟩)
          by_cases y : j = i
          · subst y; exact c
          · exact q j (by omega)
        · rw [a01]; exact ih (i + 1) 0 (by omega) (Or.inr ⟨rfl, q⟩)
  exact ⟨_, go n 0 1 (by omega) (Or.inl ⟨rfl, fun j hj => absurd hj (by omega)⟩)⟩
theorem HX1 {M : ST} {d : Nat → Nat → Nat} {K n : Nat} {e z : Nat → Nat} {a b : Int32} (hm : ML d K M) (hz : ∀ i, i < n → m_written M i = nI (z i) ∧ z i < 12) : HX M K n e (fun s => ¬ ∀ i, i < n → s i = z i) 1 a b := by
  intro Y o fq ho rs K59 post l5 l7 p1 p0
  have hK := hm.1
  refine ya2 (yes' rfl (isWritten_ok (rs.1.n12 hK) (fun i hi => ⟨ho i hi, by have := rs.k i hi; omega⟩) (z := z) (fun i hi => ?_) (fun q => ya1 (p0 (fun y => y q))) (fun q => no1 (yes (by decide) (p1 q)))))
  rw [show m_written Y = m_written M from fq.2.2.1 66 (by decide)]
  exact hz i hi
