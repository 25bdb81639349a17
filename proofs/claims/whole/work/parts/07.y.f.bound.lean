/-! PURE: bound, taken -/
theorem isTooSmall_ok {n K : Nat} {X M : ST} {post : Int32 → ST → Prop} (hk : LampK n K X M) (h0 : 3 ≤ cn (lv M) K → post 0 X) (h1 : cn (lv M) K < 3 → post 1 X) : wp_LR_isTooSmall X post := by
  have hK := hk.1
  have hc := cn_le (lv M) K
  refine liveCount_ok hk (bh (fun c => h0 ((nI_leI (a := 3) (by decide) (by omega)).mp c)) (fun c => h1 ?_))
  rcases Nat.lt_or_ge (cn (lv M) K) 3 with q | q
  · exact q
  · exact absurd (nI_le (a := 3) q (by omega)) c
/-- at the beginning of a PROOF -/
def C0 (X : ST) : Prop := (∀ i, i < 12 → x_Case_joined X i = 0) ∧ (∀ i, i < 12 → x_Case_parted X i = 0) ∧ x_Case_depth X = 0 ∧ x_Case_isOver X = 0
theorem C0.cx {X : ST} (h : C0 X) : CX (fun _ => 0) X := by
  intro k hk hlt
  rw [h.1 _ (by omega), h.2.1 _ (by omega), b_0]
  exact ⟨rfl, rfl⟩
theorem FR.c0 {X X' : ST} (s : FR X X') (h : C0 X) : C0 X' := by
  unfold C0 at h ⊢
  rw [show x_Case_joined X' = _ from s.2.2.1 34 (by decide), show x_Case_parted X' = _ from s.2.2.1 35 (by decide), show x_Case_depth X' = _ from s.1 8 (by decide), show x_Case_isOver X' = _ from s.1 9 (by decide)]
  exact h
theorem beginE_ok {n : Nat} {d : Nat → Nat → Nat} {K : Nat} {X M : ST} {post : ST → Prop} (h : InvD n d X M) (hn : n ≤ 600) (hm : ML d K M) (hk : LampK n K X M) (hp : ∀ X1 X' m p, InvD n d X1 M → SV X X1 → ¬ x_Lamps_surveyed X1 = 0 → FX X1 X' → RK M d K X' m p → C0 X' → post X') : wp_LR_beginEmptyCase X post := by
  refine survey_ok h (fun X1 hX1 sv hs => fillI_ok (by decide) (fun fa hfa => fillI_ok (by decide) (fun fb hfb => nm (nm ?_))))
  generalize hY : xs_Case_isOver _ 0 = Y
  have fx : FX X1 Y := by
    rw [← hY]
    exact ((((Fe.rf X1).sA (by decide) _).sA (by decide) _).sI (by decide) _).sI (by decide) _
  have c0 : C0 Y := by
    rw [← hY]
    exact ⟨hfa, hfb, rfl, rfl⟩
  clear hY
  have hkY : LampK n K Y M := FX.lamp fx (hk.sv sv)
  refine rank_ok hkY hn hm (fun a b ha hb => ?_) (fun X' m q fr rk => hp X1 X' m q hX1 sv hs (fx.tr fr.fx) rk (fr.c0 c0))
  rw [FX.gaps fx]
  exact (ISurv.at hX1 hm hs ha).1 b hb
theorem freeAll_ok {M : ST} {post : ST → Prop} (h : ∀ g, (∀ k, k < 144 → g k = 0) → post (ms_pairs M g)) : wp_m_freeAll M post := by
  have p2 : ∀ (f g : Nat → Int32), ms_pairs (ms_pairs M f) g = ms_pairs M g := fun f g => sA_sA _ _ _ _
  have pg : ∀ (f : Nat → Int32), m_pairs (ms_pairs M f) = f := fun f => gA_sA _ _ _
  have go : ∀ (m i : Nat) (g : Nat → Int32), i + m = 144 → (∀ l, l < i → g l = 0) → wp_m_freeAll_2 (fun M2 => post M2) post (m + 1) (ms_pairs M g) (nI i) := by
    intro m
    induction m with
    | zero =>
      intro i g hi h1
      exact yes (nI_le (a := 144) (by omega) (by omega)) (h g (fun l hl => h1 l (by omega)))
    | succ m ih =>
      intro i g hi h1
      refine nay (nI_ge (b := 144) (by omega) (by decide)) ⟨vp_in_nI (by omega) (by decide), nm ?_⟩
      rw [p2, pg, nI_clamp (show i < 2 ^ 31 by omega), nI_1]
      refine ih (i + 1) _ (by omega) (fun l hl => ?_)
      by_cases y : l = i
      · subst y; rw [pk_us]
      · rw [pk_un y]; exact h1 l (by omega)
  have st := go 144 0 (m_pairs M) (by omega) (fun l hl => absurd hl (by omega))
  rw [show ms_pairs M (m_pairs M) = M from sA_self M 67] at st
  exact ⟨_, st⟩
theorem CM0 {M : ST} {g : Nat → Int32} (h : ∀ k, k < 144 → g k = 0) : CM (fun _ => 0) (ms_pairs M g) := by
  intro k hk
  rw [show m_pairs (ms_pairs M g) = g from gA_sA _ _ _, h k hk]
  exact ⟨rfl, Nat.zero_le _⟩
theorem VV_u {M : ST} {d : Nat → Nat → Nat} {K f : Nat} {t t' : Nat → Nat} {c1 c : Nat} {v v' : Int64} (e : ∀ i, i < c → t i = t' i) (h : VV M d K f t c1 c v) (g : VV M d K f t' c1 c v') : v = v' := by
  unfold VV at h g
  rw [psum_congr c e] at h
  simp only [lab_congr c e] at h
  rcases h with ⟨h1, h2, h3⟩ | ⟨h1, h2⟩
  · rcases g with ⟨g1, g2, g3⟩ | ⟨g1, g2⟩
    · rw [h3, g3]
    · exact absurd ⟨h1, h2⟩ g1
  · rcases g with ⟨g1, g2, g3⟩ | ⟨g1, g2⟩
    · exact absurd ⟨g1, g2⟩ h1
    · rw [h2, g2]
theorem FM.plit {M M' : ST} (s : FM M M') : ∀ l, plit M' l = plit M l
  | 0 => rfl
  | l + 1 => by rw [plit_s, plit_s, FM.plit s l, s.out, s.price]
theorem FM.pv {M M' : ST} (s : FM M M') (d : Nat → Nat → Nat) : pvM M' d = pvM M d := by
  unfold pvM
  rw [s.w d, s.price]
theorem FM.vv {M M' : ST} (s : FM M M') {d : Nat → Nat → Nat} {K f : Nat} {t : Nat → Nat} {c1 c : Nat} {v : Int64} (h : VV M' d K f t c1 c v) : VV M d K f t c1 c v := by
  unfold VV at h ⊢
  rw [s.plit, s.pv, s.out] at h
  exact h
theorem sumvv_ok {n : Nat} {M : ST} {d : Nat → Nat → Nat} {K f : Nat} {cs : Nat → Nat} {X : ST} {t : Nat → Nat} {c1 c : Nat} {post : Int64 → ST → Prop} (hk : LampK n K X M) (hf : isF M K f) (tm : TM M d K cs f t c1 c) (gr : GR M d t c (c - c1) X) (h : ∀ v, VV M d K f t c1 c v → post v X) : wp_Tree_sumOfCase X post := sumOfCase_ok hk hf tm gr (fun a b => h _ (Or.inl ⟨a, b, rfl⟩)) (fun z => h _ (Or.inr ⟨z, rfl⟩))
theorem FTp {M Y : ST} {g : Nat → Int32} (s : FT' (ms_pairs M g) Y) : FM M Y := by
  have a : FM M (ms_pairs M g) := (Fe.rf M).sA (by decide) _
  exact a.tr (FT'.fm s)
theorem ls_bound (n : Nat) (X M : ST) (hn : n < 512) (h : Inv n X M) : wp_LR_bound X (fun r X1 => wp_m_bound M (fun q M1 => r = q ∧ Inv (n + 1) X1 M1)) := by
  have hu := h.up
  obtain ⟨d, hd⟩ := h
  obtain ⟨K, hk, hm⟩ := hd.ml
  have hK := hm.1
  have hc := cn_le (lv M) K
  refine isTooSmall_ok hk (fun c3 => no2 ?_) (fun c3 => ya2 (lit_ok hk (nay (nI_ge (b := 3) c3 (by decide)) ⟨rfl, hu⟩)))
  obtain ⟨f, hf⟩ := isF_ex (M := M) (K := K) (by omega)
  refine beginE_ok hd (by omega) hm hk (fun X1 X2 m p hX1 sv hs fx rk c0 => ?_)
  have hk2 : LampK n K X2 M := FX.lamp fx (hk.sv sv)
  refine grow_ok hk2 (by omega) hm hf c3 rk c0.cx (fun X3 t c1 c fg tm gr => sumvv_ok (FX.lamp fg.fx hk2) hf tm gr (fun v vv => ?_))
  refine lit_ok hk (yes (nI_le (a := 3) c3 (by omega)) (freeAll_ok (fun g hg => mtree_ok (M := ms_pairs M g) (cs := fun _ => 0) hm (hk.pb (by omega)) hf c3 (CM0 hg) (fun Y t' c1' c' v' fY tm' mg vv' => ?_))))
  obtain ⟨e1, e2, e3⟩ := TS_u tm tm'
  subst e1; subst e2
  exact ⟨VV_u e3 vv (FM.vv ((Fe.rf M).sA (by decide) _) vv'), Inv.up ⟨d, FM.inv (FTp fY) (FX.inv (fx.tr fg.fx) hX1)⟩⟩
theorem ls_taken (n : Nat) (X M : ST) (a1 : Int32) (hn : n < 512) (h : Inv n X M) : wp_LR_taken X a1 (fun r X1 => wp_m_taken M a1 (fun q M1 => r = q ∧ Inv (n + 1) X1 M1)) := by
  have hu := h.up
  obtain ⟨d, hd⟩ := h
  obtain ⟨K, hk, hm⟩ := hd.ml
  have hK := hm.1
  have hc := cn_le (lv M) K
  refine isTooSmall_ok hk (fun c3 => no2 ?_) (fun c3 => ya2 (lit_ok hk (nay (nI_ge (b := 3) c3 (by decide)) ⟨rfl, hu⟩)))
  obtain ⟨f, hf⟩ := isF_ex (M := M) (K := K) (by omega)
  refine beginE_ok hd (by omega) hm hk (fun X1 X2 m p hX1 sv hs fx rk c0 => ?_)
  have hk2 : LampK n K X2 M := FX.lamp fx (hk.sv sv)
  refine grow_ok hk2 (by omega) hm hf c3 rk c0.cx (fun X3 t c1 c fg tm gr => ?_)
  have sl := seq_le hf c3 (fun j hj => (tm.1 j hj).1)
  have c2 := tm.2.2.2.1
  have mm : ∀ {P : Int32 → ST → Prop}, (∀ Y t' , FM M Y → MG t' c Y → (∀ i, i < c → t i = t' i) → (a1 < 0 → (P (-1) Y)) ∧ (¬ a1 < 0 → ((a1 < (m_taken Y) → (vp_in a1 24 ∧ (vp_in a1 24 ∧ (P ((16 * ((m_takenPair Y a1.toNatClampNeg) / 12)) + ((m_takenPair Y a1.toNatClampNeg) - (m_takenPair Y a1.toNatClampNeg) / 12 * 12)) Y)))) ∧ (¬ a1 < (m_taken Y) → (P (-1) Y))))) → wp_m_taken M a1 P := by
    intro P hP
    refine lit_ok hk (yes (nI_le (a := 3) c3 (by omega)) (freeAll_ok (fun g hg => mtree_ok (M := ms_pairs M g) (cs := fun _ => 0) hm (hk.pb (by omega)) hf c3 (CM0 hg) (fun Y t' c1' c' v' fY tm' mg vv' => ?_))))
    obtain ⟨e1, e2, e3⟩ := TS_u tm tm'
    subst e1; subst e2
    exact hP Y t' (FTp fY) mg e3
  have hX3 := FX.inv (fx.tr fg.fx) hX1
  have inv : ∀ Y, FM M Y → Inv (n + 1) X3 Y := fun Y fm => Inv.up ⟨d, fm.inv hX3⟩
  show (a1 < 0 → wp_m_taken M a1 _) ∧ (¬ a1 < 0 → (x_Tree_takenCount X3 ≤ a1 → wp_m_taken M a1 _) ∧ (¬ x_Tree_takenCount X3 ≤ a1 → vp_in a1 12 ∧ wp_m_taken M a1 _))
  rw [gr.1]
  refine bh (fun q => mm (fun Y t' fm mg e => yes q ⟨rfl, inv Y fm⟩)) (fun q => bh (fun q2 => mm (fun Y t' fm mg e => nay q (nay (by rw [mg.1]; exact le_nlt.mp q2) ⟨rfl, inv Y fm⟩))) (fun q2 => ?_))
  obtain ⟨i, hi, rfl⟩ := nI_of q
  have hic : i < c := by
    rcases Nat.lt_or_ge i c with y | y
    · exact y
    · exact absurd (nI_le y hi) q2
  refine ⟨vp_in_nI (by omega) (by decide), mm (fun Y t' fm mg e => nay q (yes (by rw [mg.1]; exact nI_lt hic (by omega)) ⟨vp_in_nI (by omega) (by decide), vp_in_nI (by omega) (by decide), ?_, inv Y fm⟩))⟩
  have el := tm.lits i hic
  have := el.1
  rw [nI_clamp hi, gr.2.2.1 i hic, mg.2.1 i hic, ← e i hic, r12 (show t i < 2 ^ 31 by omega), d12 (show t i < 2 ^ 31 by omega), ix16]
  rfl
