/-! PURE: climb, both loops -/
abbrev FP : ST → ST → Prop := Fe [5, 6, 7, 8, 9, 10, 11, 12, 14] [1] [23, 28, 29, 30, 31, 32, 33, 34, 35, 36, 37, 39, 40, 44, 45, 46] [38]
abbrev FN : ST → ST → Prop := Fe [19, 20, 21] [] [59, 64, 65, 66, 67, 68, 69, 70, 71, 72, 73, 74, 75] []
theorem FX.fp {X X' : ST} (s : FX X X') : FP X X' := s.up (fun k hk => hk) (fun k hk => hk) (fun k hk => List.mem_cons_of_mem _ hk) (fun k hk => hk)
theorem FM.fn {X X' : ST} (s : FM X X') : FN X X' := s.up (fun k hk => hk) (fun k hk => hk) (fun k hk => List.mem_cons_of_mem _ hk) (fun k hk => hk)
theorem big_fp {k : Nat} (h : 100 ≤ k) : k ∉ [23, 28, 29, 30, 31, 32, 33, 34, 35, 36, 37, 39, 40, 44, 45, 46] := by
  intro q
  simp only [List.mem_cons, List.not_mem_nil, or_false] at q
  omega
theorem FP.gaps {X X' : ST} (s : FP X X') : x_gaps X' = x_gaps X := funext fun i => s.2.2.1 _ (big_fp (by omega))
theorem FP.ways {X X' : ST} (s : FP X X') : x_ways X' = x_ways X := funext fun i => s.2.2.1 _ (big_fp (by omega))
/-- the PRICES after k steps, as far as they may have gone -/
def PK (M : ST) (K : Nat) (k : Nat) (P : Nat → Int32) : Prop := ∀ l, l < K → (m_price M l).toInt - 10 * (k : Int) ≤ (P l).toInt ∧ (P l).toInt ≤ (m_price M l).toInt + 10 * (k : Int)
theorem climbInv {n K k : Nat} {d : Nat → Nat → Nat} {X1 X M M' : ST} (h : InvD n d X1 M) (hk : LampK n K X1 M) (s : FP X1 X) (u : FN M M') (hk1 : k ≤ 100) (pk : PK M K k (x_Lamps_prices X)) (pz : ∀ l, K ≤ l → l < 12 → x_Lamps_prices X l = 0) (e : ∀ l, l < K → x_Lamps_prices X l = m_price M' l) : InvD (n + 1) d X M' := by
  obtain ⟨h1, h2, h3, h4, h5, h6, h7⟩ := h
  refine ⟨h1.fr (s.1 0 (by decide)) (s.2.2.1 15 (by decide)) (s.2.2.1 16 (by decide)) (s.2.2.1 17 (by decide)) (s.2.2.1 18 (by decide)) (u.1 15 (by decide)) (u.2.2.1 47 (by decide)) (u.2.2.1 48 (by decide)) (u.2.2.1 49 (by decide)) (u.2.2.1 50 (by decide)),
    h2.fr (s.2.2.1 13 (by decide)) (s.2.2.1 14 (by decide)) (funext fun i => s.2.2.2 _ (big_bs (by omega))) (u.2.2.1 51 (by decide)) (u.2.2.1 52 (by decide)) (u.2.2.2 53 (by decide)),
    h3.fr (s.2.1 0 (by decide)) s.ways (u.1 15 (by decide)) (u.2.2.1 47 (by decide)) (u.2.2.1 48 (by decide)) (u.2.2.1 49 (by decide)) (u.2.2.1 50 (by decide)) (u.2.2.1 54 (by decide)),
    ?_,
    h5.fr (s.1 3 (by decide)) s.gaps (s.2.2.1 24 (by decide)) (s.2.2.1 25 (by decide)) (u.1 16 (by decide)) (u.2.2.1 55 (by decide)) (u.2.2.1 56 (by decide)) (u.2.2.1 57 (by decide)) (u.2.2.1 58 (by decide)),
    h6.fr (s.1 4 (by decide)) (s.2.2.1 27 (by decide)) (u.1 17 (by decide)) (u.2.2.1 60 (by decide)) (u.1 16 (by decide)) (u.2.2.1 58 (by decide)),
    h7.fr (s.1 13 (by decide)) (s.2.2.1 41 (by decide)) (s.2.2.1 42 (by decide)) (s.2.2.1 43 (by decide)) (u.1 18 (by decide)) (u.2.2.1 61 (by decide)) (u.2.2.1 62 (by decide)) (u.2.2.1 63 (by decide))⟩
  obtain ⟨k1, k2, k3, k4, k5, k6⟩ := hk
  refine ⟨K, k1, (s.1 2 (by decide)).trans k2, (u.1 16 (by decide)).trans k3, fun l hl => ?_, pz, ?_⟩
  · obtain ⟨o1, o2, o3, o4, o5, o6, o7, o8⟩ := k4 l hl
    have p := pk l hl
    rw [show x_Lamps_crossings X = _ from s.2.2.1 20 (by decide), show x_Lamps_kinds X = _ from s.2.2.1 21 (by decide), show x_Lamps_others X = _ from s.2.2.1 22 (by decide), show m_crossing M' = _ from u.2.2.1 55 (by decide), show m_kind M' = _ from u.2.2.1 56 (by decide), show m_other M' = _ from u.2.2.1 57 (by decide), show m_isOut M' = _ from u.2.2.1 58 (by decide), ← e l hl]
    exact ⟨o1, o2, rfl, o4, o5, o6, by omega, o8⟩
  · rw [show x_Lamps_live X = _ from s.1 1 (by decide), show m_isOut M' = _ from u.2.2.1 58 (by decide)]
    exact k6
theorem climbK {n K k : Nat} {X1 X M : ST} (hk : LampK n K X1 M) (s : FP X1 X) (hk1 : k ≤ 100) (pk : PK M K k (x_Lamps_prices X)) (pz : ∀ l, K ≤ l → l < 12 → x_Lamps_prices X l = 0) : LampK (n + 1) K X (ms_price M (x_Lamps_prices X)) := by
  obtain ⟨k1, k2, k3, k4, k5, k6⟩ := hk
  refine ⟨k1, (s.1 2 (by decide)).trans k2, k3, fun l hl => ?_, pz, ?_⟩
  · obtain ⟨o1, o2, o3, o4, o5, o6, o7, o8⟩ := k4 l hl
    have p := pk l hl
    rw [mpg, show x_Lamps_crossings X = _ from s.2.2.1 20 (by decide), show x_Lamps_kinds X = _ from s.2.2.1 21 (by decide), show x_Lamps_others X = _ from s.2.2.1 22 (by decide)]
    exact ⟨o1, o2, rfl, o4, o5, o6, by omega, o8⟩
  · rw [show x_Lamps_live X = _ from s.1 1 (by decide)]
    exact k6
/-- one step: how far PRICES go -/
theorem stepPK {n K k c : Nat} {X1 M : ST} {P : Nat → Int32} {t : Nat → Nat} (hk : LampK n K X1 M) (hn : n ≤ 511) (hk1 : k ≤ 100) (pk : PK M K k P) (c12 : c ≤ 12) (lp : ∀ i, i < c → lpM M K (t i)) : PK M K (k + 1) (pq t (dcP M K P) c) := by
  intro l hl
  have p := pk l hl
  have b := hk.pb (by omega) l hl
  have ne : ∀ i, i < c → t i / 12 ≠ t i % 12 := fun i hi => by have := (lp i hi).1; omega
  by_cases o : m_isOut M l = 0
  · have e : dcP M K P l = P l - 2 := if_pos ⟨hl, o⟩
    have e2 : (dcP M K P l).toInt = (P l).toInt - 2 := by rw [e, i32_2 (by omega) (by omega)]
    have q := pq_b (t := t) (P0 := dcP M K P) (l := l) (by omega) (by omega) c (by omega) ne
    omega
  · have e : dcP M K P l = P l := if_neg (fun z => o z.2)
    rw [pq_out (l := l) c ne (fun i hi => ⟨fun z => o (by rw [← z]; exact (lp i hi).2.2.1), fun z => o (by rw [← z]; exact (lp i hi).2.2.2)⟩), e]
    omega
theorem xclimb_ok {n K f nn : Nat} {d : Nat → Nat → Nat} {X1 M : ST} {K75 : ST → Int32 → Prop} {post : Int32 → ST → Prop} (hk : LampK n K X1 M) (hn : n ≤ 511) (hm : ML d K M) (hf : isF M K f) (h3 : 3 ≤ cn (lv M) K) (hg : XG d K X1 M) (hnn : nn ≤ 100) : ∀ (m k : Nat) (X : ST), k + m = nn → FP X1 X → PK M K k (x_Lamps_prices X) → (∀ l, K ≤ l → l < 12 → x_Lamps_prices X l = 0) → CX (fun _ => 0) X → (∃ mm p, RK (ms_price M (x_Lamps_prices X)) d K X mm p) → (∃ t c1 c, TM (ms_price M (x_Lamps_prices X)) d K (fun _ => 0) f t c1 c ∧ GR (ms_price M (x_Lamps_prices X)) d t c (c - c1) X) → (∀ X' k', FP X1 X' → k' ≤ 100 → PK M K k' (x_Lamps_prices X') → (∀ l, K ≤ l → l < 12 → x_Lamps_prices X' l = 0) → RC M d K f m k (x_Lamps_prices X) k' (x_Lamps_prices X') → K75 X' (nI k')) → wp_LR_climb_29 K75 post (m + 1) X (nI nn) (nI k) := by
  have hK := hm.1
  have hc := cn_le (lv M) K
  intro m
  induction m with
  | zero =>
    intro k X hkm fp pk pz cx rk tr hp
    exact yes (nI_le (by omega) (by omega)) (hp X k fp (by omega) pk pz ⟨rfl, fun _ _ => rfl⟩)
  | succ m ih =>
    intro k X hkm fp pk pz cx rk tr hp
    obtain ⟨mm, p, rk⟩ := rk
    obtain ⟨t, c1, c, tm, gr⟩ := tr
    have hkX := climbK hk fp (by omega) pk pz
    have hbX := hkX.pb (by omega)
    have hm1 : ML d K (ms_price M (x_Lamps_prices X)) := hm
    have hf1 : isF (ms_price M (x_Lamps_prices X)) K f := hf
    have sl := seq_le hf1 h3 (fun j hj => (tm.1 j hj).1)
    have sl : c1 + 2 ≤ cn (lv M) K := sl
    have c2 := tm.2.2.2.1
    refine nay (nI_ge (by omega) (by omega)) (sumvv_ok hkX hf1 tm gr (fun v vv => ?_))
    rcases VV_b hm1 hbX tm (by omega) vv with ⟨en, ev⟩ | ⟨en, ev⟩
    · refine yes (by rw [ev]; decide) (hp X k fp (by omega) pk pz ⟨t, c1, c, tm, Or.inl ⟨en, rfl, fun _ _ => rfl⟩⟩)
    · refine nay ev (raise_ok (M := ms_price M (x_Lamps_prices X)) hK hkX.2.1 hkX.2.2.2.2.2 gr (by omega) (fun i hi => (tm.lits i hi).1) ?_)
      have lp : ∀ i, i < c → lpM M K (t i) := fun i hi => (tm.lits i hi).2.1
      have ne : ∀ i, i < c → t i / 12 ≠ t i % 12 := fun i hi => by have := (lp i hi).1; omega
      show wp_Tree_rankAnew (xs_Lamps_prices X (pq t (dcP M K (x_Lamps_prices X)) c)) _
      have pk2 := stepPK hk hn (show k ≤ 100 by omega) pk (show c ≤ 12 by omega) lp
      have pz2 : ∀ l, K ≤ l → l < 12 → pq t (dcP M K (x_Lamps_prices X)) c l = 0 := by
        intro l h1 h2
        rw [pq_out c ne (fun i hi => by have := (lp i hi).1; have := (lp i hi).2.1; omega)]
        unfold dcP
        rw [if_neg (by omega)]
        exact pz l h1 h2
      have rcn : ∀ k' P', RC M d K f m (k + 1) (pq t (dcP M K (x_Lamps_prices X)) c) k' P' → RC M d K f (m + 1) k (x_Lamps_prices X) k' P' := fun k' P' h => ⟨t, c1, c, tm, Or.inr ⟨en, h⟩⟩
      generalize hP : pq t (dcP M K (x_Lamps_prices X)) c = P at pk2 pz2 rcn ⊢
      have fp2 : FP X1 (xs_Lamps_prices X P) := fp.sA (by decide) _
      have hk2 : LampK (n + 1) K (xs_Lamps_prices X P) (ms_price M P) := climbK (X := xs_Lamps_prices X P) hk fp2 (show k + 1 ≤ 100 by omega) pk2 pz2
      have hg2 : XG d K (xs_Lamps_prices X P) (ms_price M P) := fun a b ha hb => by
        rw [FP.gaps fp2]
        exact hg a b ha hb
      refine rankAnew_ok (M := ms_price M (x_Lamps_prices X)) (M' := ms_price M P) (m := mm) (p := p) hk2 (by omega) hm hg2 (fun k => Iff.rfl) rk (fun X3 q fr rk3 => ?_)
      have hk3 : LampK (n + 1) K X3 (ms_price M P) := FX.lamp fr.fx hk2
      have cx3 : CX (fun _ => 0) X3 := by
        unfold CX at cx ⊢
        rw [show x_Case_joined X3 = x_Case_joined X from fr.2.2.1 34 (by decide), show x_Case_parted X3 = x_Case_parted X from fr.2.2.1 35 (by decide)]
        exact cx
      refine grow_ok (M := ms_price M P) hk3 (by omega) hm hf h3 rk3 cx3 (fun X4 t4 c14 c4 fg tm4 gr4 => ?_)
      have e4 : x_Lamps_prices X4 = P := (fg.2.2.1 23 (by decide)).trans (fr.2.2.1 23 (by decide))
      rw [nI_1]
      refine ih (k + 1) X4 (by omega) ((fp2.tr fr.fx.fp).tr fg.fx.fp) (by rw [e4]; exact pk2) (by rw [e4]; exact pz2) (FG.cx fg cx3) (by rw [e4]; exact ⟨mm, q, FG.rk fg rk3⟩) (by rw [e4]; exact ⟨t4, c14, c4, tm4, gr4⟩) (fun X' k' f1 f2 f3 f4 rc => hp X' k' f1 f2 f3 f4 (rcn _ _ ?_))
      rw [e4] at rc
      exact rc
theorem FM.tm {M M' : ST} (s : FM M M') {d : Nat → Nat → Nat} {K f : Nat} {cs t : Nat → Nat} {c1 c : Nat} (h : TM M' d K cs f t c1 c) : TM M d K cs f t c1 c := by
  have e : elM M' d K cs = elM M d K cs := by
    funext k
    unfold elM lpM
    rw [s.out, s.w]
  unfold TM at h ⊢
  rw [e, s.pv] at h
  exact h
theorem FN.pm {M Y : ST} (s : FN M Y) : FM (ms_price M (m_price Y)) Y := by
  refine ⟨s.1, s.2.1, fun k hk => ?_, s.2.2.2⟩
  by_cases e : k = 59
  · subst e
    show Y.2.2.1 59 = ks_up M.2.2.1 59 (Y.2.2.1 59) 59
    rw [ks_up_eq]
  · exact (s.2.2.1 k (fun z => (List.mem_cons.mp z).elim e hk)).trans (ks_up_ne _ _ e).symm
theorem mclimb_ok {n K f nn : Nat} {d : Nat → Nat → Nat} {X1 M : ST} {K156 : ST → Int32 → Prop} {post : Int32 → ST → Prop} (hk : LampK n K X1 M) (hn : n ≤ 511) (hm : ML d K M) (hf : isF M K f) (h3 : 3 ≤ cn (lv M) K) (hnn : nn ≤ 100) : ∀ (m k3 al : Nat) (Y : ST), k3 + m = nn → al ≤ k3 → FN M Y → CM (fun _ => 0) Y → PK M K al (m_price Y) → (∀ Y' k', FN M Y' → RC M d K f m al (m_price Y) k' (m_price Y') → K156 Y' (nI k')) → wp_m_climb_32 K156 post (m + 1) Y (nI nn) (nI al) (nI k3) := by
  have hK := hm.1
  have hc := cn_le (lv M) K
  intro m
  induction m with
  | zero =>
    intro k3 al Y hkm hal fn cm pk hp
    exact yes (nI_le (by omega) (by omega)) (hp Y al fn ⟨rfl, fun _ _ => rfl⟩)
  | succ m ih =>
    intro k3 al Y hkm hal fn cm pk hp
    have pm := fn.pm
    have hmY : ML d K Y := pm.ml (M := ms_price M (m_price Y)) hm
    have eo : m_isOut Y = m_isOut M := pm.out
    have elv : lv Y = lv M := pm.lvv
    have hfY : isF Y K f := by
      unfold isF
      rw [eo]
      exact hf
    have hbY : PB Y K := fun l hl => by
      have a := hk.pb (by omega) l hl
      have b := pk l hl
      have c := (hk.2.2.2.1 l hl).2.2.2.2.2.2.1
      omega
    refine nay (nI_ge (by omega) (by omega)) (mtree_ok hmY hbY hfY (by rw [elv]; exact h3) cm (fun Z t c1 c v fZ tm mg vv => ?_))
    have sl := seq_le hfY (by rw [elv]; exact h3) (fun j hj => (tm.1 j hj).1)
    rw [elv] at sl
    have c2 := tm.2.2.2.1
    have ez : m_price Z = m_price Y := fZ.2.2.1 59 (by decide)
    have fnZ : FN M Z := fn.tr (FT'.fm fZ).fn
    have tmM : TM (ms_price M (m_price Y)) d K (fun _ => 0) f t c1 c := FM.tm pm tm
    rw [nI_1]
    rcases VV_b hmY hbY tm (by omega) vv with ⟨en, ev⟩ | ⟨en, ev⟩
    · have en : Endl M K f t c1 c := by
        unfold Endl at en ⊢
        rw [eo] at en
        exact en
      refine yes ev (ih (k3 + 1) al Z (by omega) (by omega) fnZ (FT'.cm fZ cm) (by rw [ez]; exact pk) (fun Y' k' f1 rc => hp Y' k' f1 ?_))
      rw [ez] at rc
      obtain ⟨r1, r2⟩ := RC_end tmM en m al k' _ rc
      exact ⟨t, c1, c, tmM, Or.inl ⟨en, r1, r2⟩⟩
    · have en : ¬ Endl M K f t c1 c := by
        unfold Endl at en ⊢
        rw [eo] at en
        exact en
      have lp : ∀ i, i < c → lpM M K (t i) := fun i hi => by
        have := (tm.lits i hi).2.1
        unfold lpM at this ⊢
        rw [eo] at this
        exact this
      refine nay (fun z => ev (by rw [z]; decide)) ?_
      rw [nI_1]
      refine mraise_ok (M := M) (Q := fun M15 v16 v17 v18 => wp_m_climb_32 K156 post (m + 1) M15 v16 v17 (v18 + 1)) hK ((fnZ.1 16 (by decide)).trans hm.2.1) ((fnZ.2.2.1 58 (by decide))) mg (by omega) (fun i hi => (tm.lits i hi).1) ?_
      show wp_m_climb_32 K156 post (m + 1) _ (nI nn) (nI (al + 1)) (nI k3 + 1)
      rw [nI_1, ez]
      refine ih (k3 + 1) (al + 1) _ (by omega) (by omega) (fnZ.sA (by decide) _) (fun k hk => FT'.cm fZ cm k hk) ?_ (fun Y' k' f1 rc => hp Y' k' f1 ⟨t, c1, c, tmM, Or.inr ⟨en, ?_⟩⟩)
      · rw [mpg]
        exact stepPK hk hn (by omega) pk (by omega) lp
      · rw [mpg] at rc
        exact rc
theorem pv_pe {M : ST} {d : Nat → Nat → Nat} {K k : Nat} {P : Nat → Int32} (pe : ∀ l, l < K → m_price M l = P l) (lp : lpM M K k) : pvM (ms_price M P) d k = pvM M d k := by
  have hw : wL (ms_price M P) d = wL M d := rfl
  have := lp.1
  have := lp.2.1
  unfold pvM
  rw [mpg, hw, ← pe _ (show k / 12 < K by omega), ← pe _ lp.2.1]
theorem psum_pe {pv pv' : Nat → Int} {t : Nat → Nat} : ∀ c, (∀ i, i < c → pv (t i) = pv' (t i)) → psum pv t c = psum pv' t c
  | 0, _ => rfl
  | c + 1, h => by rw [psum_s, psum_s, psum_pe c (fun i hi => h i (by omega)), h c (by omega)]
theorem ls_climb (n : Nat) (X M : ST) (a1 : Int32) (hn : n < 512) (h : Inv n X M) : wp_LR_climb X a1 (fun r X1 => wp_m_climb M a1 (fun q M1 => r = q ∧ Inv (n + 1) X1 M1)) := by
  have hu := h.up
  obtain ⟨d, hd⟩ := h
  obtain ⟨K, hk, hm⟩ := hd.ml
  have hK := hm.1
  have hc := cn_le (lv M) K
  refine bh (fun q => yes q ⟨rfl, hu⟩) (fun q => bh (fun q2 => ?_) (fun q2 => nay q (nay q2 ⟨rfl, hu⟩)))
  have q0 : ¬ a1 < 0 := fun z => q (by
    rw [Int32.lt_iff_toInt_lt] at z ⊢
    have y0 : (0 : Int32).toInt = 0 := rfl
    have y1 : (1 : Int32).toInt = 1 := rfl
    omega)
  obtain ⟨nn, hnn, rfl⟩ := nI_of2 (M := 100) (n := 100) (by decide) q0 q2
  have mm : ∀ {P : Int32 → ST → Prop}, wp_m_lit M (fun r2 M1 => (3 ≤ r2 → (wp_m_freeAll M1 (fun M3 => ∃ n, wp_m_climb_32 (fun M19 v20 => P v20 M19) P n M3 (nI nn) 0 0))) ∧ (¬ 3 ≤ r2 → (P (-4) M1))) → wp_m_climb M (nI nn) P := fun z => nay q (yes q2 z)
  refine isTooSmall_ok hk (fun c3 => no2 ?_) (fun c3 => ya2 (mm (lit_ok hk (nay (nI_ge (b := 3) c3 (by decide)) ⟨rfl, hu⟩))))
  obtain ⟨f, hf⟩ := isF_ex (M := M) (K := K) (by omega)
  refine beginE_ok hd (by omega) hm hk (fun X1 X2 m p hX1 sv hs fx rk c0 => ?_)
  have hk1 := hk.sv sv
  have hk2 : LampK n K X2 M := FX.lamp fx hk1
  refine grow_ok hk2 (by omega) hm hf c3 rk c0.cx (fun X3 t c1 c fg tm gr => ?_)
  have fx3 : FX X1 X3 := fx.tr fg.fx
  have hk3 : LampK n K X3 M := FX.lamp fx3 hk1
  have hg1 : XG d K X1 M := fun a b ha hb => (ISurv.at hX1 hm hs ha).1 b hb
  have pe : ∀ l, l < K → m_price M l = x_Lamps_prices X3 l := fun l hl => ((hk3.2.2.2.1 l hl).2.2.1).symm
  have pk0 : PK M K 0 (x_Lamps_prices X3) := fun l hl => by
    rw [← pe l hl]
    omega
  have tm0 : TM (ms_price M (x_Lamps_prices X3)) d K (fun _ => 0) f t c1 c := TM_pv (P := m_price M) pe (by rw [mps]; exact tm)
  have key0 : ∀ k, k < 144 → lpM M K k → key (ms_price M (x_Lamps_prices X3)) d k = key M d k := by
    intro k _ lp
    have := lp.1
    have := lp.2.1
    have hw : wL (ms_price M (x_Lamps_prices X3)) d = wL M d := rfl
    have hv := pv_pe (d := d) pe lp
    unfold key pkU
    rw [hv, hw]
  have rk3 : RK (ms_price M (x_Lamps_prices X3)) d K X3 m p := by
    obtain ⟨r1, r2, r3, r4, r5⟩ := fg.rk rk
    refine ⟨r1, r2, fun i hi => ?_, fun i j hij hj => ?_, r5⟩
    · obtain ⟨a, b, c⟩ := r3 i hi
      exact ⟨by rw [a, key0 _ b c], b, c⟩
    · have a := r3 i (by omega)
      have b := r3 j hj
      rw [key0 _ a.2.1 a.2.2, key0 _ b.2.1 b.2.2]
      exact r4 i j hij hj
  have gr3 : GR (ms_price M (x_Lamps_prices X3)) d t c (c - c1) X3 := by
    obtain ⟨g1, g2, g3, g4, g5⟩ := gr
    exact ⟨g1, g2, g3, g4.trans (congrArg oL (psum_pe c (fun i hi => (pv_pe pe (tm.lits i hi).2.1).symm))), g5⟩
  refine ⟨_, xclimb_ok hk1 (by omega) hm hf c3 hg1 hnn nn 0 X3 (by omega) fx3.fp pk0 (hk3.2.2.2.2.1) (FG.cx fg c0.cx) ⟨m, p, rk3⟩ ⟨t, c1, c, tm0, gr3⟩ (fun X' k' fp k100 pk pz rc => mm (lit_ok hk (yes (nI_le (a := 3) c3 (by omega)) (freeAll_ok (fun g hg => ?_)))))⟩
  have fn0 : FN M (ms_pairs M g) := (Fe.rf M).sA (by decide) _
  refine ⟨_, mclimb_ok hk1 (by omega) hm hf c3 hnn nn 0 0 (ms_pairs M g) (by omega) (Nat.le_refl _) fn0 (CM0 hg) (fun l hl => by show _ ≤ (m_price M l).toInt ∧ (m_price M l).toInt ≤ _; omega) (fun Y' k'' fn rc' => ?_)⟩
  obtain ⟨e1, e2⟩ := RC_u nn 0 (x_Lamps_prices X3) (m_price M) k' k'' _ _ (fun l hl => (pe l hl).symm) rc rc'
  exact ⟨by rw [e1], d, climbInv hX1 hk1 fp fn k100 pk pz e2⟩
