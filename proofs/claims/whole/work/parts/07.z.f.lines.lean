/-! PURE: check, line by line -/
abbrev FJ : ST → ST → Prop := Fe [8, 9, 11, 12, 14] [1] [34, 35, 36, 37, 39, 40, 44, 45, 46] []
theorem FJ.fx {X X' : ST} (s : FJ X X') : FX X X' := s.up (fun k hk => by simp only [List.mem_cons, List.not_mem_nil, or_false] at hk ⊢; omega) (fun k hk => hk) (fun k hk => by simp only [List.mem_cons, List.not_mem_nil, or_false] at hk ⊢; omega) (fun k hk => absurd hk List.not_mem_nil)
theorem FG.fj {X X' : ST} (s : FG X X') : FJ X X' := s.up (fun k hk => by simp only [List.mem_cons, List.not_mem_nil, or_false] at hk ⊢; omega) (fun k hk => hk) (fun k hk => by simp only [List.mem_cons, List.not_mem_nil, or_false] at hk ⊢; omega) (fun k hk => hk)
theorem FC.fj {X X' : ST} (s : FC X X') : FJ X X' := s.up (fun k hk => by simp only [List.mem_cons, List.not_mem_nil, or_false] at hk ⊢; omega) (fun k hk => absurd hk List.not_mem_nil) (fun k hk => by simp only [List.mem_cons, List.not_mem_nil, or_false] at hk ⊢; omega) (fun k hk => hk)
/-- what the class has at the beginning of a PROOF, whatever CASE it comes to -/
def XB (n : Nat) (M : ST) (d : Nat → Nat → Nat) (K : Nat) (X : ST) : Prop := LampK n K X M ∧ (∃ m p, RK M d K X m p) ∧ ∀ l, l < K → ∀ j, j < 32 → bt (x_Lamps_needs X l) j = mu0 M d K l j
theorem XB.xe {n : Nat} {M : ST} {d : Nat → Nat → Nat} {K : Nat} {r : List (Nat × Bool)} {X X' : ST} (h : XB n M d K X) (s : FJ X X') (xa : XA M K r X') : XE n M d K r X' := by
  obtain ⟨h1, ⟨m, p, h2⟩, h3⟩ := h
  refine ⟨FX.lamp s.fx h1, ⟨m, p, ?_⟩, xa, ?_⟩
  · unfold RK at h2 ⊢
    rw [show x_Tree_pairs X' = _ from s.1 10 (by decide), show x_Tree_ranked X' = _ from s.2.2.2 38 (by decide)]
    exact h2
  · rw [show x_Lamps_needs X' = _ from s.2.2.1 25 (by decide)]
    exact h3
/-- the CASE after a LINE -/
def stp (r : List (Nat × Bool)) (op : Nat) (a b : Int32) : Option (List (Nat × Bool)) := if op = 1 then some ((12 * a.toNatClampNeg + b.toNatClampNeg, false) :: r) else goP r
theorem stp_ok {M : ST} {d : Nat → Nat → Nat} {K f op : Nat} {nn a b : Int32} {r r' : List (Nat × Bool)} (hK : K ≤ 12) (ok : OKP M K r) (h : Sd M d K f nn (cso r) op a b) (e : stp r op a b = some r') : OKP M K r' := by
  unfold stp at e
  by_cases y : op = 1
  · subst y
    rw [if_pos rfl] at e
    have e := Option.some.inj e
    subst e
    rcases h with ⟨_, x, y, ea, eb, s⟩ | z | z | z
    · subst ea; subst eb
      obtain ⟨q1, q2, q3, q4⟩ := S1_lp hK s
      have := s.1
      have := s.2.1
      rw [nI_clamp (show x < 2 ^ 31 by omega), nI_clamp (show y < 2 ^ 31 by omega)]
      exact ⟨⟨q3, q4, s.2.2.2.2⟩, ok⟩
    · exact absurd z.1 (by decide)
    · omega
    · exact absurd z.1 (by decide)
  · rw [if_neg y] at e
    exact OKP_go ok e
def CK (M : ST) (d : Nat → Nat → Nat) (K f : Nat) (nn : Int32) (lo : Nat → Nat) (la lb : Nat → Int32) : Nat → Nat → Option (List (Nat × Bool)) → Int32 → Prop
  | 0, _, none, v => v = -1
  | 0, i, some _, v => v = nI i
  | _ + 1, i, none, v => v = nI i
  | m + 1, i, some r, v => (¬ Sd M d K f nn (cso r) (lo i) (la i) (lb i) ∧ v = nI i) ∨ (Sd M d K f nn (cso r) (lo i) (la i) (lb i) ∧ CK M d K f nn lo la lb m (i + 1) (stp r (lo i) (la i) (lb i)) v)
theorem CK_u {M : ST} {d : Nat → Nat → Nat} {K f : Nat} {nn : Int32} {lo : Nat → Nat} {la lb : Nat → Int32} : ∀ (m i : Nat) (o : Option (List (Nat × Bool))) (v w : Int32), CK M d K f nn lo la lb m i o v → CK M d K f nn lo la lb m i o w → v = w
  | 0, _, none, v, w, h, g => Eq.trans h (Eq.symm g)
  | 0, _, some _, v, w, h, g => Eq.trans h (Eq.symm g)
  | _ + 1, _, none, v, w, h, g => Eq.trans h (Eq.symm g)
  | m + 1, i, some r, v, w, h, g => by
    rcases h with ⟨h1, h2⟩ | ⟨h1, h2⟩
    · rcases g with ⟨g1, g2⟩ | ⟨g1, g2⟩
      · rw [h2, g2]
      · exact absurd g1 h1
    · rcases g with ⟨g1, g2⟩ | ⟨g1, g2⟩
      · exact absurd h1 g1
      · exact CK_u m (i + 1) _ v w h2 g2
theorem follow'_ok {M : ST} {d : Nat → Nat → Nat} {K f op : Nat} {nn a b : Int32} {r : List (Nat × Bool)} {X : ST} {post : ST → Prop} (hK : K ≤ 12) (hop : op ≤ 6) (xa : XA M K r X) (h : Sd M d K f nn (cso r) op a b) (hp : ∀ X', FC X X' → XO M K (stp r op a b) X' → post X') : (¬ nI op = 1 → wp_Case_goOn X (fun X1 => post X1)) ∧ (nI op = 1 → wp_Case_splitBy X a b (fun X3 => post X3)) := by
  refine bn (fun e => goOn_ok xa (fun X' fc xo => hp X' fc ?_)) (fun e => ?_)
  · have : op ≠ 1 := fun z => e (by rw [z]; rfl)
    unfold stp
    rw [if_neg this]
    exact xo
  · have : op = 1 := (nI_eq (b := 1) (by omega) (by decide)).mp e
    subst this
    rcases h with ⟨_, x, y, ea, eb, s⟩ | z | z | z
    · subst ea; subst eb
      obtain ⟨q1, q2, q3, q4⟩ := S1_lp hK s
      have s1 := s.1
      have s2 := s.2.1
      have go := splitBy_ok (p := 12 * x + y) (post := fun X3 => post X3) xa q3 q4 s.2.2.2.2 (fun X' fc xa' => hp X' fc ?_)
      · rw [q1, q2] at go
        exact go
      · unfold stp
        rw [if_pos rfl, nI_clamp (show x < 2 ^ 31 by omega), nI_clamp (show y < 2 ^ 31 by omega)]
        exact Or.inr ⟨_, rfl, xa'⟩
    · exact absurd z.1 (by decide)
    · omega
    · exact absurd z.1 (by decide)
theorem xcheck_ok {n K f P : Nat} {M Xb : ST} {d : Nat → Nat → Nat} {nn : Int32} {lo : Nat → Nat} {la lb : Nat → Int32} {post : Int32 → ST → Prop} (hn : n ≤ 511) (hm : ML d K M) (hf : isF M K f) (h3 : 3 ≤ cn (lv M) K) (xb : XB n M d K Xb) (hP : P ≤ 400) (ec : x_proof_count Xb = nI P) (hl : ∀ i, i < P → (x_proof_ops Xb i = nI (lo i) ∧ 1 ≤ lo i ∧ lo i ≤ 6) ∧ x_proof_as Xb i = la i ∧ x_proof_bs Xb i = lb i) : ∀ (m i : Nat) (o : Option (List (Nat × Bool))) (X : ST), i + m = P → FJ Xb X → XO M K o X → (∀ X' v, FJ Xb X' → CK M d K f nn lo la lb m i o v → post v X') → wp_Judge_wrongLine_proof_2 (fun X5 v6 => post v6 X5) (fun X7 => ((x_Case_isOver X7) = 0 → (post (x_proof_count X7) X7)) ∧ (¬ (x_Case_isOver X7) = 0 → (post (-1) X7))) post (m + 1) X nn (nI i) := by
  have hK := hm.1
  intro m
  induction m with
  | zero =>
    intro i o X hi fj xo hp
    have : i = P := by omega
    subst this
    have eX : x_proof_count X = nI i := (fj.1 13 (by decide)).trans ec
    refine yes (by rw [eX]; exact nI_le (Nat.le_refl _) (by omega)) ?_
    rcases xo with ⟨rfl, e⟩ | ⟨r, rfl, xa⟩
    · rw [e]
      exact ya2 (hp X (-1) fj rfl)
    · rw [xa.2.2.2.2.2, eX]
      exact no2 (hp X (nI i) fj rfl)
  | succ m ih =>
    intro i o X hi fj xo hp
    have eX : x_proof_count X = nI P := (fj.1 13 (by decide)).trans ec
    refine nay (by rw [eX]; exact nI_ge (by omega) (by omega)) ?_
    rcases xo with ⟨rfl, e⟩ | ⟨r, rfl, xa⟩
    · rw [e]
      exact ya1 (hp X (nI i) fj rfl)
    · rw [xa.2.2.2.2.2]
      have v : vp_in (nI i) 400 := vp_in_nI (by omega) (by decide)
      obtain ⟨⟨o1, o2, o3⟩, o4, o5⟩ := hl i (by omega)
      have eo : ∀ X', FJ Xb X' → x_proof_ops X' i = nI (lo i) ∧ x_proof_as X' i = la i ∧ x_proof_bs X' i = lb i := fun X' s => by
        rw [show x_proof_ops X' = _ from s.2.2.1 41 (by decide), show x_proof_as X' = _ from s.2.2.1 42 (by decide), show x_proof_bs X' = _ from s.2.2.1 43 (by decide)]
        exact ⟨o1, o4, o5⟩
      refine no1 ⟨v, v, v, ?_⟩
      rw [nI_clamp (show i < 2 ^ 31 by omega), (eo X fj).1, (eo X fj).2.1, (eo X fj).2.2]
      refine canStand_ok hn hm hf h3 (xb.xe fj xa) o2 o3 (fun sd X1 fg => ya1 ⟨v, ?_⟩) (fun sd X1 fg => no1 (hp X1 (nI i) (fj.tr fg.fj) (Or.inl ⟨sd, rfl⟩)))
      have fj1 : FJ Xb X1 := fj.tr fg.fj
      rw [nI_clamp (show i < 2 ^ 31 by omega), (eo X1 fj1).1, (eo X1 fj1).2.1, (eo X1 fj1).2.2]
      have fo := follow'_ok (post := fun X3 => wp_Judge_wrongLine_proof_2 (fun X5 v6 => post v6 X5) (fun X7 => ((x_Case_isOver X7) = 0 → (post (x_proof_count X7) X7)) ∧ (¬ (x_Case_isOver X7) = 0 → (post (-1) X7))) post (m + 1) X3 nn (nI i + 1)) hK o3 (fg.xa xa) sd (fun X' fc xo' => ?_)
      · exact ⟨fo.1, fun z => ⟨v, v, fo.2 z⟩⟩
      · rw [nI_1]
        exact ih (i + 1) _ X' (by omega) (fj1.tr fc.fj) xo' (fun X'' w s c => hp X'' w s (Or.inr ⟨sd, c⟩))
theorem mcheck_ok {n K f P : Nat} {M X : ST} {d : Nat → Nat → Nat} {nn : Int32} {lo : Nat → Nat} {la lb : Nat → Int32} {post : Int32 → ST → Prop} (hk : LampK n K X M) (hn : n ≤ 511) (hm : ML d K M) (hf : isF M K f) (h3 : 3 ≤ cn (lv M) K) (hP : P ≤ 400) (ec : m_lines M = nI P) (hl : ∀ i, i < P → (m_op M i = nI (lo i) ∧ 1 ≤ lo i ∧ lo i ≤ 6) ∧ m_left M i = la i ∧ m_right M i = lb i) : ∀ (m i : Nat) (o : Option (List (Nat × Bool))) (Y : ST), i + m = P → FM M Y → MO o Y → (∀ r, o = some r → OKP M K r) → (∀ Y' v, FM M Y' → CK M d K f nn lo la lb m i o v → post v Y') → wp_m_check_33 (fun M14 v15 => post v15 M14) (fun M16 v17 => wp_m_check_112 post M16 v17) post (m + 1) Y nn (nI i) := by
  have hK := hm.1
  have pos : ∀ r, OKP M K r → ¬ nI (stO (some r)).length ≤ 0 ∧ 0 < nI (stO (some r)).length := by
    intro r ok
    have l := OKP_66 ok
    have l2 := stk_len r
    have e : (stO (some r)).length = (stk r).length + 1 := rfl
    rw [e]
    exact ⟨nI_nle (by omega) (by omega), nI_lt (a := 0) (by omega) (by omega)⟩
  intro m
  induction m with
  | zero =>
    intro i o Y hi fm mo ok hp
    have : i = P := by omega
    subst this
    have eY : m_lines Y = nI i := (fm.1 18 (by decide)).trans ec
    rcases o with _ | r
    · refine yes (by rw [mo.1]; decide) ?_
      show wp_m_check_112 post Y (nI i)
      unfold wp_m_check_112
      rw [mo.1, eY]
      exact nay (by decide) (yes (nI_le (Nat.le_refl _) (by omega)) (hp Y (-1) fm rfl))
    · have q := pos r (ok r rfl)
      refine nay (by rw [mo.1]; exact q.1) (yes (by rw [eY]; exact nI_le (Nat.le_refl _) (by omega)) ?_)
      show wp_m_check_112 post Y (nI i)
      unfold wp_m_check_112
      rw [mo.1, eY]
      exact yes q.2 (hp Y (nI i) fm rfl)
  | succ m ih =>
    intro i o Y hi fm mo ok hp
    have eY : m_lines Y = nI P := (fm.1 18 (by decide)).trans ec
    rcases o with _ | r
    · refine yes (by rw [mo.1]; decide) ?_
      show wp_m_check_112 post Y (nI i)
      unfold wp_m_check_112
      rw [mo.1, eY]
      exact nay (by decide) (nay (nI_ge (by omega) (by omega)) (hp Y (nI i) fm rfl))
    · have okr := ok r rfl
      have q := pos r okr
      have v : vp_in (nI i) 400 := vp_in_nI (by omega) (by decide)
      obtain ⟨⟨o1, o2, o3⟩, o4, o5⟩ := hl i (by omega)
      have eo : ∀ Y', FM M Y' → m_op Y' i = nI (lo i) ∧ m_left Y' i = la i ∧ m_right Y' i = lb i := fun Y' s => by
        rw [show m_op Y' = _ from s.2.2.1 61 (by decide), show m_left Y' = _ from s.2.2.1 62 (by decide), show m_right Y' = _ from s.2.2.1 63 (by decide)]
        exact ⟨o1, o4, o5⟩
      refine nay (by rw [mo.1]; exact q.1) (nay (by rw [eY]; exact nI_ge (by omega) (by omega)) (mpop_ok okr mo (fun Z fw ma => ⟨v, v, v, ?_⟩)))
      have fmZ : FM M Z := fm.tr (FW'.fm fw)
      rw [nI_clamp (show i < 2 ^ 31 by omega), (eo Z fmZ).1, (eo Z fmZ).2.1, (eo Z fmZ).2.2]
      refine mstands_ok' hk hn hm hf h3 fmZ okr ma o2 o3 (fun sd W fz => ya1 ⟨v, ?_⟩) (fun sd W fz => no1 (hp W (nI i) (fmZ.tr (FZ.fm fz)) (Or.inl ⟨sd, rfl⟩)))
      have fmW : FM M W := fmZ.tr (FZ.fm fz)
      have maW := FZ.ma fz ma
      rw [(eo W fmW).1, (eo W fmW).2.1, (eo W fmW).2.2, nI_1]
      have nxt : ∀ Y', FM M Y' → MO (stp r (lo i) (la i) (lb i)) Y' → wp_m_check_33 (fun M14 v15 => post v15 M14) (fun M16 v17 => wp_m_check_112 post M16 v17) post (m + 1) Y' nn (nI (i + 1)) := fun Y' s mo' => ih (i + 1) _ Y' (by omega) s mo' (fun r' e => stp_ok hK okr sd e) (fun Y'' w s' c => hp Y'' w s' (Or.inr ⟨sd, c⟩))
      refine bn (fun e => nxt W fmW ?_) (fun e => ⟨v, v, ?_⟩)
      · have : lo i ≠ 1 := fun z => e (by rw [z]; rfl)
        unfold stp
        rw [if_neg this]
        exact maW.go
      · have e1 : lo i = 1 := (nI_eq (b := 1) (by omega) (by decide)).mp e
        rcases sd with ⟨_, x, y, ea, eb, s⟩ | z | z | z
        · obtain ⟨q1, q2, q3, q4⟩ := S1_lp hK s
          have s1 := s.1
          have s2 := s.2.1
          have go := mpart_ok (p := 12 * x + y) (post := fun M12 => wp_m_check_33 (fun M14 v15 => post v15 M14) (fun M16 v17 => wp_m_check_112 post M16 v17) post (m + 1) M12 nn (nI (i + 1))) okr q3 q4.1 maW (fun Z' fw' mo' => nxt Z' (fmW.tr (FW'.fm fw')) ?_)
          · rw [q1, q2, ← ea, ← eb] at go
            exact go
          · unfold stp
            rw [if_pos e1, ea, eb, nI_clamp (show x < 2 ^ 31 by omega), nI_clamp (show y < 2 ^ 31 by omega)]
            exact mo'
        · omega
        · omega
        · omega
theorem XA0 {M : ST} {K : Nat} {X : ST} (h : C0 X) : XA M K [] X := by
  refine ⟨h.2.2.1, trivial, trivial, fun x hx y hy => ?_, fun x hx y hy => ?_, h.2.2.2⟩
  · rw [h.1 x hx, b_0]
    exact (decide_eq_false (fun z => absurd z.2.2 (by show ¬ 0 = 1; omega))).symm
  · rw [h.2.1 x hx, b_0]
    exact (decide_eq_false (fun z => absurd z.2.2 (by show ¬ 0 = 2; omega))).symm
/-- the model's first case -/
theorem start_ok {M : ST} {Y : ST} {post : ST → Prop} (fm : FM M Y) (hw : m_waits Y = 0) (h : ∀ Z, FM M Z → MO (some []) Z → post Z) (hn : ∀ Z, Fe [20] [] [67, 71] [] Y Z → MO (some []) Z → post Z := fun Z s mo => h Z (fm.tr (FW'.fm s)) mo) : wp_m_freeAll Y (fun M4 => wp_m_pushCase M4 (fun M6 => post M6)) := by
  refine freeAll_ok (fun g hg => push_ok (L := []) (c := fun _ => 0) hw (by decide) trivial (fun k hk => ?_) (fun g' hg' => hn _ ?_ ?_))
  · rw [mpag]; exact hg k hk
  · exact ((((Fe.rf Y).sA (by decide) _).sA (by decide) _).sI (by decide) _)
  · exact ⟨rfl, hg'⟩
theorem ls_check (n : Nat) (X M : ST) (a1 : Int32) (hn : n < 512) (h : Inv n X M) : wp_LR_check X a1 (fun r X1 => wp_m_check M a1 (fun q M1 => r = q ∧ Inv (n + 1) X1 M1)) := by
  have hu := h.up
  obtain ⟨d, hd⟩ := h
  obtain ⟨K, hk, hm⟩ := hd.ml
  have hK := hm.1
  have hc := cn_le (lv M) K
  refine bh (fun q => ?_) (fun q => nay q ⟨rfl, hu⟩)
  refine isTooSmall_ok hk (fun c3 => no2 ?_) (fun c3 => ya2 (yes q (lit_ok hk (nay (nI_ge (b := 3) c3 (by decide)) ⟨rfl, hu⟩))))
  obtain ⟨f, hf⟩ := isF_ex (M := M) (K := K) (by omega)
  obtain ⟨P, p1, p2, p3, p4⟩ := hd.2.2.2.2.2.2
  refine beginE_ok hd (by omega) hm hk (fun X1 X2 m p hX1 sv hs fx rk c0 => ?_)
  have hk1 := hk.sv sv
  have hk2 : LampK n K X2 M := FX.lamp fx hk1
  have xb : XB n M d K X2 := by
    refine ⟨hk2, ⟨m, p, rk⟩, ?_⟩
    rw [show x_Lamps_needs X2 = _ from fx.2.2.1 25 (by decide)]
    exact fun l hl j hj => (ISurv.at hX1 hm hs hl).2.2 j hj
  have eP : ∀ k, k ≠ 3 → x_proof_count X2 = x_proof_count X := fun _ _ => (fx.1 13 (by decide)).trans (sv.1 13 (by decide))
  have e41 : x_proof_ops X2 = x_proof_ops X := (fx.2.2.1 41 (by decide)).trans (sv.2.2.1 41 (by decide) (by decide) (by decide))
  have e42 : x_proof_as X2 = x_proof_as X := (fx.2.2.1 42 (by decide)).trans (sv.2.2.1 42 (by decide) (by decide) (by decide))
  have e43 : x_proof_bs X2 = x_proof_bs X := (fx.2.2.1 43 (by decide)).trans (sv.2.2.1 43 (by decide) (by decide) (by decide))
  have hop : ∀ i, i < P → m_op M i = nI (m_op M i).toNatClampNeg ∧ 1 ≤ (m_op M i).toNatClampNeg ∧ (m_op M i).toNatClampNeg ≤ 6 := by
    intro i hi
    obtain ⟨_, _, _, o, o1, o2, o3⟩ := p4 i hi
    rw [o3, nI_clamp (show o < 2 ^ 31 by omega)]
    exact ⟨rfl, o1, o2⟩
  refine ⟨_, xcheck_ok (lo := fun i => (m_op M i).toNatClampNeg) (la := m_left M) (lb := m_right M) (by omega) hm hf c3 xb p1 ((eP 0 (by decide)).trans p2) (fun i hi => ?_) P 0 (some []) X2 (by omega) (Fe.rf X2) (Or.inr ⟨[], rfl, XA0 c0⟩) (fun X' v fj ck => ?_)⟩
  · obtain ⟨q1, q2, q3, _⟩ := p4 i hi
    rw [e41, e42, e43, q1, q2, q3]
    exact ⟨hop i hi, rfl, rfl⟩
  · have hX' := FX.inv (fx.tr fj.fx) hX1
    have fw0 : FM M (ms_waits M 0) := (Fe.rf M).sI (by decide) _
    refine yes q (lit_ok hk (yes (nI_le (a := 3) c3 (by omega)) (nm (start_ok fw0 rfl (fun Z fm mo => ⟨_, mcheck_ok (lo := fun i => (m_op M i).toNatClampNeg) (la := m_left M) (lb := m_right M) hk (by omega) hm hf c3 p1 p3 (fun i hi => ⟨hop i hi, rfl, rfl⟩) P 0 (some []) Z (by omega) fm mo (fun r e => ?_) (fun Y' w fm' ck' => ?_)⟩)))))
    · have e := Option.some.inj e
      subst e
      trivial
    · exact ⟨CK_u _ _ _ _ _ ck ck', Inv.up ⟨d, fm'.inv hX'⟩⟩
