/-! PURE: least, second, with -/
theorem isLarge_ok {n K : Nat} {X M : ST} {post : Int32 → ST → Prop} (hk : LampK n K X M) (h0 : cn (lv M) K ≤ 8 → post 0 X) (h1 : 8 < cn (lv M) K → post 1 X) : wp_LR_isLarge X post := by
  have hK := hk.1
  have hc := cn_le (lv M) K
  refine liveCount_ok hk (bh (fun c => h0 ((nI_leI (b := 8) (by omega) (by decide)).mp c)) (fun c => h1 ?_))
  rcases Nat.lt_or_ge 8 (cn (lv M) K) with q | q
  · exact q
  · exact absurd (nI_le (b := 8) q (by decide)) c
/-- the TWINS' sets -/
def mu0 (M : ST) (d : Nat → Nat → Nat) (K l j : Nat) : Bool := decide (j < K ∧ m_isOut M l = 0 ∧ m_isOut M j = 0 ∧ (twI M d K l = nI j ∨ twI M d K j = nI l))
theorem mu0_ct {K n : Nat} {d : Nat → Nat → Nat} {r : Nat → Nat} {M : ST} (hm : ML d K M) (hp : PR M K n r) {i : Nat} (hi : i < n) : (∀ j, j < 32 → mu0 M d K (r i) j = true → j = r (pvp n i) ∨ j = r (nxp n i)) ↔ CT M d K n r i := by
  have hK := hm.1
  constructor
  · intro h j hj e
    have q := hp.2.1 j hj
    have := h (r j) (by omega) (decide_eq_true ⟨q.1, (hp.2.1 i hi).2, q.2, e⟩)
    rcases this with z | z
    · exact Or.inr (hp.2.2 _ _ hj (pvp_lt hi) z)
    · exact Or.inl (hp.2.2 _ _ hj (nxp_lt hi) z)
  · intro h j hj e
    obtain ⟨e1, e2, e3, e4⟩ := of_decide_eq_true e
    obtain ⟨p, hp1, rfl⟩ := hp.full e1 e3
    rcases h p hp1 e4 with z | z
    · exact Or.inr (by rw [z])
    · exact Or.inl (by rw [z])
theorem begin_ok {n : Nat} {d : Nat → Nat → Nat} {K : Nat} {X M : ST} {post : ST → Prop} (h : InvD n d X M) (hm : ML d K M) (hk : LampK n K X M) (h8 : cn (lv M) K ≤ 8) (hp : ∀ X1 X', InvD n d X1 M → SV X X1 → FX X1 X' → SE M d K (cn (lv M) K) (en (lv M) K) (mu0 M d K) (fun _ _ => false) (fun _ => False) X' → x_Search_bestLength X' = 2147483647 → post X') : wp_Search_begin X post := by
  have hK := hm.1
  have ev := Ev_mk hm
  refine survey_ok h (fun X1 hX1 sv hs => ⟨by decide, by decide, by decide, by decide, by decide, nm (fillI_ok (by decide) (fun fb hfb => nm (nm (nm ?_))))⟩)
  have hk1 := hk.sv sv
  generalize hY : xs_Search_size _ 0 = Y
  have fx : FX X1 Y := by
    rw [← hY]
    exact (((((Fe.rf X1).sA (by decide) _).sA (by decide) _).sI (by decide) _).sI (by decide) _).sI (by decide) _
  have e1 : ∀ l, l < K → ∀ j, j < 32 → bt (x_Search_musts Y l) j = mu0 M d K l j := by
    intro l hl j hj
    rw [show x_Search_musts Y = va_cpy (x_Lamps_needs X1) (x_Search_musts X1) 0 0 12 by rw [← hY]; rfl]
    unfold va_cpy
    rw [if_pos ⟨by omega, by omega⟩, show 0 + (l - 0) = l by omega]
    exact (ISurv.at hX1 hm hs hl).2.2 j hj
  have e2 : ∀ l, l < K → ∀ j, j < 32 → bt (x_Search_bans Y l) j = false := by
    intro l hl j hj
    rw [show x_Search_bans Y = fb by rw [← hY]; rfl, hfb l (by omega)]
    exact b_0 j
  have e3 : x_Search_shuns Y = 0 := by rw [← hY]; rfl
  have e4 : x_Search_bestLength Y = 2147483647 := by rw [← hY]; rfl
  have e5 : x_Search_size Y = 0 := by rw [← hY]; rfl
  have eg : x_gaps Y = x_gaps X1 := fx.gaps
  clear hY
  have go : ∀ (m i : Nat) (Z : ST), i + m = K → Fe [6] [] [30] [] Y Z → x_Search_size Z = nI (cn (lv M) i) → (∀ l, l < i → m_isOut M l = 0 → x_Search_live Z (cn (lv M) l) = nI l) → wp_Search_begin_51 (fun X13 => post X13) post (m + 1) Z (nI i) := by
    have fin : ∀ (i : Nat) (Z : ST), Fe [6] [] [30] [] Y Z → cn (lv M) i = cn (lv M) K → x_Search_size Z = nI (cn (lv M) i) → (∀ l, l < K → m_isOut M l = 0 → x_Search_live Z (cn (lv M) l) = nI l) → post Z := by
      intro i Z fz ec ez hl
      have fz' : FX Y Z := fz.up (fun k hk => by simp only [List.mem_cons, List.not_mem_nil, or_false] at hk ⊢; omega) (fun k hk => absurd hk List.not_mem_nil) (fun k hk => by simp only [List.mem_cons, List.not_mem_nil, or_false] at hk ⊢; omega) (fun k hk => absurd hk List.not_mem_nil)
      refine hp X1 Z hX1 sv (fx.tr fz') ⟨by rw [ez, ec], ev.arr hl, ?_, ?_, ?_, Or.inl ⟨?_, fun _ q => q⟩⟩ ?_
      · intro a b ha hb
        rw [fz'.gaps, eg]
        exact (ISurv.at hX1 hm hs ha).1 b hb
      · rw [show x_Search_musts Z = x_Search_musts Y from fz.2.2.1 28 (by decide)]; exact e1
      · rw [show x_Search_bans Z = x_Search_bans Y from fz.2.2.1 29 (by decide)]; exact e2
      · rw [show x_Search_shuns Z = x_Search_shuns Y from fz.1 5 (by decide)]; exact e3
      · rw [show x_Search_bestLength Z = x_Search_bestLength Y from fz.1 7 (by decide)]; exact e4
    intro m
    induction m with
    | zero =>
      intro i Z hi fz ez hl
      have : i = K := by omega
      subst this
      have ec : x_Lamps_count Z = nI i := (fz.1 2 (by decide)).trans ((fx.1 2 (by decide)).trans hk1.2.1)
      exact yes (by rw [ec]; exact nI_le (Nat.le_refl _) (by omega)) (fin i Z fz rfl ez hl)
    | succ m ih =>
      intro i Z hi fz ez hl
      have fz' : FX Y Z := fz.up (fun k hk => by simp only [List.mem_cons, List.not_mem_nil, or_false] at hk ⊢; omega) (fun k hk => absurd hk List.not_mem_nil) (fun k hk => by simp only [List.mem_cons, List.not_mem_nil, or_false] at hk ⊢; omega) (fun k hk => absurd hk List.not_mem_nil)
      have hkZ : LampK n K Z M := FX.lamp (fx.tr fz') hk1
      have up := cn_up (lv M) (a := i) K (by omega)
      refine nay (by rw [hkZ.2.1]; exact nI_ge (by omega) (by omega)) ?_
      rw [ez]
      refine bh (fun c => ?_) (fun c => isLive_ok hkZ (fun q => absurd q (fun q => q.elim (nI_pos (by omega)) (nI_ge (by omega) (by omega)))) (fun l' hl' e lv' => ya2 ?_) (fun l' hl' e lv' => no2 ?_))
      · have c := (nI_leI (a := 8) (by decide) (by omega)).mp c
        refine fin i Z fz (by omega) ez (fun l hl2 ho => ?_)
        rcases Nat.lt_or_ge l i with y | y
        · exact hl l y ho
        · have := cn_up (lv M) (a := i) l y
          have := cn_lt (lv M) hl2 (lv_t.mpr ho)
          omega
      · have e : i = l' := (nI_eq (by omega) (by omega)).mp e
        subst e
        have lt := cn_lt (lv M) hl' (lv_t.mpr lv')
        rw [ez, nI_clamp (show cn (lv M) i < 2 ^ 31 by omega)]
        refine ⟨vp_in_nI (by omega) (by decide), nm (nm ?_)⟩
        rw [show x_Search_size (xs_Search_live Z (upd (x_Search_live Z) (cn (lv M) i) (nI i))) = nI (cn (lv M) i) from ez, nI_1, nI_1]
        refine ih (i + 1) _ (by omega) ((fz.sA (by decide) _).sI (by decide) _) ?_ (fun l hl2 ho => ?_)
        · rw [cn_s, if_pos (lv_t.mpr lv')]; rfl
        · show upd (x_Search_live Z) (cn (lv M) i) (nI i) (cn (lv M) l) = nI l
          by_cases y : l = i
          · subst y; rw [pk_us]
          · have : cn (lv M) l ≠ cn (lv M) i := by
              have := cn_lt (lv M) (show l < i by omega) (lv_t.mpr ho)
              omega
            rw [pk_un this]; exact hl l (by omega) ho
      · have e : i = l' := (nI_eq (by omega) (by omega)).mp e
        subst e
        rw [nI_1]
        refine ih (i + 1) Z (by omega) fz ?_ (fun l hl2 ho => ?_)
        · rw [cn_s, if_neg (by rw [lv_t]; exact lv'), Nat.add_zero]; exact ez
        · by_cases y : l = i
          · subst y; exact absurd ho lv'
          · exact hl l (by omega) ho
  exact ⟨_, go K 0 Y (by omega) (Fe.rf Y) e5 (fun l hl => absurd hl (by omega))⟩
theorem Opt_congr {M : ST} {d : Nat → Nat → Nat} {K n : Nat} {e : Nat → Nat} {G G' : (Nat → Nat) → Prop} (h : ∀ s, RS M K n e s → (G s ↔ G' s)) {r : Nat → Nat} (o : Opt M d K n e G r) : Opt M d K n e G' r := ⟨o.1, (h r o.1).mp o.2.1, fun s hs g => o.2.2 s hs ((h s hs).mpr g)⟩
theorem FS.fx {X X' : ST} (s : FS X X') : FX X X' := s.up (fun k hk => by simp only [List.mem_cons, List.not_mem_nil, or_false] at hk ⊢; omega) (fun k hk => absurd hk List.not_mem_nil) (fun k hk => by simp only [List.mem_cons, List.not_mem_nil, or_false] at hk ⊢; omega) (fun k hk => absurd hk List.not_mem_nil)
theorem iff0 {M : ST} {d : Nat → Nat → Nat} {K n : Nat} {e s : Nat → Nat} {SH EX : (Nat → Nat) → Prop} (hm : ML d K M) (rs : RS M K n e s) (he : ¬ SH s ↔ EX s) : GX n (mu0 M d K) (fun _ _ => false) SH s ↔ GM M d K n EX s := by
  unfold GX GM
  rw [KT_ct]
  constructor
  · intro h
    exact ⟨h.1, fun i hi => (mu0_ct hm rs.1 hi).mp (h.2.1 i hi), he.mp h.2.2.2⟩
  · intro h
    exact ⟨h.1, fun i hi => (mu0_ct hm rs.1 hi).mpr (h.2.1 i hi), fun _ _ => rfl, he.mpr h.2.2⟩
theorem mcopy_ok {M : ST} {n : Nat} {r : Nat → Nat} {v : Int32} {K65 : ST → Int32 → Prop} {post : Int32 → ST → Prop} (hn : n ≤ 12) (ht : m_told M = nI n) (hb : ∀ i, i < n → m_best M i = nI (r i)) (h : ∀ g, (∀ i, i < n → g i = nI (r i)) → K65 (ms_round M g) v) : ∃ k, wp_m_least_39 K65 post k M v 0 := by
  have go : ∀ (m i : Nat) (g : Nat → Int32), i + m = n → (∀ k, k < i → g k = nI (r k)) → wp_m_least_39 K65 post (m + 1) (ms_round M g) v (nI i) := by
    intro m
    induction m with
    | zero =>
      intro i g hi hg
      exact yes (by rw [show m_told (ms_round M g) = nI n from ht]; exact nI_le (by omega) (by omega)) (h g (fun k hk => hg k (by omega)))
    | succ m ih =>
      intro i g hi hg
      refine nay (by rw [show m_told (ms_round M g) = nI n from ht]; exact nI_ge (by omega) (by omega)) ⟨vp_in_nI (by omega) (by decide), vp_in_nI (by omega) (by decide), nm ?_⟩
      rw [mround2, show m_round (ms_round M g) = g from gA_sA _ _ _, nI_clamp (show i < 2 ^ 31 by omega), nI_1]
      refine ih (i + 1) _ (by omega) (fun k hk => ?_)
      by_cases y : k = i
      · subst y; rw [pk_us]; exact hb k (by omega)
      · rw [pk_un y]; exact hg k (by omega)
  have st := go n 0 (m_round M) (by omega) (fun k hk => absurd hk (by omega))
  rw [mround1] at st
  exact ⟨_, st⟩
theorem ls_least (n : Nat) (X M : ST) (_ : n < 512) (h : Inv n X M) : wp_LR_least X (fun r X1 => wp_m_least M (fun q M1 => r = q ∧ Inv (n + 1) X1 M1)) := by
  have hu := h.up
  obtain ⟨d, hd⟩ := h
  obtain ⟨K, hk, hm⟩ := hd.ml
  have hK := hm.1
  have hc := cn_le (lv M) K
  have ev := Ev_mk hm
  refine isLarge_ok hk (fun c => no2 ?_) (fun c => ya2 (lit_ok hk (nay (nI_ge (a := 8) c (by omega)) ⟨rfl, hu⟩)))
  have small : ∀ {P : Int32 → ST → Prop}, ((∀ M', FQ M M' → (cn (lv M) K < 3 ∨ ∀ s, RS M K (cn (lv M) K) (en (lv M) K) s → ¬ GG M d (cn (lv M) K) (GM M d K (cn (lv M) K) (fun _ => True)) s) → P (-7) M')) → (∀ M' r, FQ M M' → 3 ≤ cn (lv M) K → Opt M d K (cn (lv M) K) (en (lv M) K) (GG M d (cn (lv M) K) (GM M d K (cn (lv M) K) (fun _ => True))) r → (∀ i, i < cn (lv M) K → m_best M' i = nI (r i)) → wp_m_lit M' (fun r6 M5 => ∀ M7 : ST, M7 = ms_told M5 r6 → ∃ k, wp_m_least_39 (fun M9 v10 => P v10 M9) P k M7 (nI (cst M d (cn (lv M) K) r)) 0)) → wp_m_least M P := by
    intro P p0 p1
    refine lit_ok hk (yes (nI_le (b := 8) c (by decide)) (msearch_ok ev (fun _ => HX0) (fun _ _ _ _ => trivial) (fun M' fq z => yes' rfl (p0 M' fq z)) (fun M' r fq h3 o z => nay' (fun y => ?_) (p1 M' r fq h3 o z))))
    have := cst_le hm o.1
    have := (nI_eq (b := 1000000000) (by omega) (by decide)).mp y
    omega
  have gi : ∀ s, RS M K (cn (lv M) K) (en (lv M) K) s → (GG M d (cn (lv M) K) (GX (cn (lv M) K) (mu0 M d K) (fun _ _ => false) (fun _ => False)) s ↔ GG M d (cn (lv M) K) (GM M d K (cn (lv M) K) (fun _ => True)) s) := by
    intro s rs
    have := iff0 (SH := fun _ => False) (EX := fun _ => True) hm rs ⟨fun _ => trivial, fun _ q => q⟩
    unfold GG
    rw [this]
  refine begin_ok hd hm hk c (fun X1 X2 hX1 sv fx se hb => run_ok ev c se hb (fun X3 fs z => no1 (small (fun M' fq y => ⟨rfl, Inv.up ⟨d, fq.fm.inv (fs.fx.inv (fx.inv hX1))⟩⟩) (fun M' r fq h3 o y => ?_))) (fun X3 r fs h3 o eb br => ya1 ?_))
  · rcases z with z | z
    · omega
    · exact absurd o.2.1 (fun q => z r o.1 ((gi r o.1).mpr q))
  · have hX3 := fs.fx.inv (fx.inv hX1)
    have sz : x_Search_size X3 = nI (cn (lv M) K) := (se.fs fs).1
    rw [sz]
    refine ⟨by decide, by decide, nI_pos (by omega), ?_⟩
    rw [nI_clamp (show cn (lv M) K < 2 ^ 31 by omega)]
    refine ⟨by show 0 + cn (lv M) K ≤ 8; omega, by show 0 + cn (lv M) K ≤ 12; omega, nm (nm (small (fun M' fq z => ?_) (fun M' r' fq _ o' br' => ?_)))⟩
    · rcases z with z | z
      · omega
      · exact absurd o.2.1 (fun q => z r o.1 ((gi r o.1).mp q))
    · have u := Opt_u hK (Opt_congr gi o) o'
      have ebl : x_Search_bestLength (xs_Told_count (xs_Told_order X3 (va_cpy (X3.2.2.1 32) (x_Told_order X3) (0 : Int32).toNatClampNeg (0 : Int32).toNatClampNeg (cn (lv M) K))) (nI (cn (lv M) K))) = nI (cst M d (cn (lv M) K) r) := eb
      rw [ebl, u.1]
      have hk' : LampK n K X3 M' := fq.fm.lamp (fs.fx.lamp (fx.lamp (hk.sv sv)))
      refine lit_ok hk' ?_
      rw [fq.fm.lvv]
      refine nm (mcopy_ok (n := cn (lv M) K) (r := r') (by omega) rfl br' (fun g hg => ⟨rfl, Inv.up ⟨d, ?_⟩⟩))
      have hi := fq.fm.inv hX3
      have hm' := fq.fm.ml hm
      have tk : TK K (cn (lv M) K) r' (xs_Told_count (xs_Told_order X3 (va_cpy (X3.2.2.1 32) (x_Told_order X3) (0 : Int32).toNatClampNeg (0 : Int32).toNatClampNeg (cn (lv M) K))) (nI (cn (lv M) K))) (ms_round (ms_told M' (nI (cn (lv M) K))) g) := by
        refine ⟨by omega, rfl, rfl, fun i hi => ⟨?_, hg i hi, ?_⟩, o'.1.1.2.2⟩
        · show va_cpy (X3.2.2.1 32) (x_Told_order X3) 0 0 (cn (lv M) K) i = _
          unfold va_cpy
          rw [if_pos ⟨by omega, by omega⟩, show 0 + (i - 0) = i by omega, ← u.2 i hi]
          exact br i hi
        · show r' i < K ∧ m_isOut M' (r' i) = 0
          rw [fq.fm.out]
          exact o'.1.1.2.1 i hi
      obtain ⟨h1, h2, h3', h4, h5, h6, h7⟩ := hi
      exact ⟨(h1.fr rfl rfl rfl rfl rfl rfl rfl rfl rfl rfl), (h2.fr rfl rfl rfl rfl rfl rfl), (h3'.fr rfl (toldW _ _) rfl rfl rfl rfl rfl rfl), h4.fr rfl rfl rfl rfl rfl rfl rfl rfl rfl rfl rfl rfl, (h5.fr rfl (toldG _ _) rfl rfl rfl rfl rfl rfl rfl), tk.it hm'.2.1 hm'.1, (h7.fr rfl rfl rfl rfl rfl rfl rfl rfl)⟩
