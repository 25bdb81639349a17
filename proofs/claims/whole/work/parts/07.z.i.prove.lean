/-! PURE: prove -/
def PV (M : ST) (d : Nat → Nat → Nat) (K f : Nat) (nn : Int32) : Nat → Nat → Option (List (Nat × Bool)) → (Nat → Nat × Nat × Nat) → Nat → Prop
  | 0, i, none, _, c => c = i
  | 0, _, some _, _, _ => False
  | _ + 1, i, none, _, c => c = i
  | m + 1, i, some r, L, c => WN M d K f nn (cso r) (L i) ∧ PV M d K f nn m (i + 1) (stp r (L i).1 (nI (L i).2.1) (nI (L i).2.2)) L c
def PF (M : ST) (d : Nat → Nat → Nat) (K f : Nat) (nn : Int32) : Nat → Option (List (Nat × Bool)) → Prop
  | 0, none => False
  | 0, some _ => True
  | _ + 1, none => False
  | m + 1, some r => NWl M d K f nn (cso r) ∨ ∃ ln, WN M d K f nn (cso r) ln ∧ PF M d K f nn m (stp r ln.1 (nI ln.2.1) (nI ln.2.2))
theorem PV_u {M : ST} {d : Nat → Nat → Nat} {K f : Nat} {nn : Int32} (hK : K ≤ 12) : ∀ (m i : Nat) (o : Option (List (Nat × Bool))) (L L' : Nat → Nat × Nat × Nat) (c c' : Nat), PV M d K f nn m i o L c → PV M d K f nn m i o L' c' → c = c' ∧ ∀ j, i ≤ j → j < c → L j = L' j
  | 0, i, none, L, L', c, c', h, g => by
    have h : c = i := h
    have g : c' = i := g
    exact ⟨by omega, fun j a b => by omega⟩
  | 0, _, some _, _, _, _, _, h, _ => h.elim
  | _ + 1, i, none, L, L', c, c', h, g => by
    have h : c = i := h
    have g : c' = i := g
    exact ⟨by omega, fun j a b => by omega⟩
  | m + 1, i, some r, L, L', c, c', h, g => by
    have e := WN_u hK h.1 g.1
    have g2 := g.2
    rw [← e] at g2
    obtain ⟨e1, e2⟩ := PV_u hK m (i + 1) _ L L' c c' h.2 g2
    refine ⟨e1, fun j a b => ?_⟩
    by_cases y : j = i
    · subst y; exact e
    · exact e2 j (by omega) b
theorem PV_pf {M : ST} {d : Nat → Nat → Nat} {K f : Nat} {nn : Int32} (hK : K ≤ 12) : ∀ (m i : Nat) (o : Option (List (Nat × Bool))) (L : Nat → Nat × Nat × Nat) (c : Nat), PV M d K f nn m i o L c → PF M d K f nn m o → False
  | 0, _, none, _, _, _, g => g
  | 0, _, some _, _, _, h, _ => h
  | _ + 1, _, none, _, _, _, g => g
  | m + 1, i, some r, L, c, h, g => by
    rcases g with g | ⟨ln, g1, g2⟩
    · exact WN_nw h.1 g
    · have e := WN_u hK h.1 g1
      rw [← e] at g2
      exact PV_pf hK m (i + 1) _ L c h.2 g2
theorem PV_op {M : ST} {d : Nat → Nat → Nat} {K f : Nat} {nn : Int32} (hK : K ≤ 12) : ∀ (m i : Nat) (o : Option (List (Nat × Bool))) (L : Nat → Nat × Nat × Nat) (c : Nat), PV M d K f nn m i o L c → ∀ j, i ≤ j → j < c → 1 ≤ (L j).1 ∧ (L j).1 ≤ 6
  | 0, i, none, L, c, h, j, a, b => by
    have h : c = i := h
    omega
  | 0, _, some _, _, _, h, _, _, _ => h.elim
  | _ + 1, i, none, L, c, h, j, a, b => by
    have h : c = i := h
    omega
  | m + 1, i, some r, L, c, h, j, a, b => by
    by_cases y : j = i
    · subst y; exact (WN_sd hK h.1).2.1
    · exact PV_op hK m (i + 1) _ L c h.2 j (by omega) b
theorem xprove_ok {n K f : Nat} {M Xb : ST} {d : Nat → Nat → Nat} {nn : Int32} {post : Int32 → ST → Prop} (hn : n ≤ 511) (hm : ML d K M) (hf : isF M K f) (h3 : 3 ≤ cn (lv M) K) (xb : XB n M d K Xb) : ∀ (m i : Nat) (o : Option (List (Nat × Bool))) (X : ST) (L : Nat → Nat × Nat × Nat), i + m = 400 → FJ Xb X → XO M K o X → DR L i X → (∀ X' L' c, FJ Xb X' → PV M d K f nn m i o L' c → (∀ j, j < i → L' j = L j) → DR L' c X' → c ≤ 400 → post 1 X') → (PF M d K f nn m o → ∀ X', FJ Xb X' → post 0 X') → wp_Judge_write_draft_7 (fun X6 => post 0 X6) (fun X7 => bz (x_Case_isOver X7) ∧ post (x_Case_isOver X7) X7) post (m + 1) X nn (nI i) := by
  have hK := hm.1
  intro m
  induction m with
  | zero =>
    intro i o X L hi fj xo dr h1 h0
    refine yes (nI_le (a := 400) (by omega) (by omega)) ?_
    rcases xo with ⟨rfl, e⟩ | ⟨r, rfl, xa⟩
    · rw [e]
      exact ⟨Or.inr rfl, h1 X L i fj rfl (fun _ _ => rfl) dr (by omega)⟩
    · rw [xa.2.2.2.2.2]
      exact ⟨Or.inl rfl, h0 trivial X fj⟩
  | succ m ih =>
    intro i o X L hi fj xo dr h1 h0
    refine nay (nI_ge (b := 400) (by omega) (by decide)) ?_
    rcases xo with ⟨rfl, e⟩ | ⟨r, rfl, xa⟩
    · refine nay' (by rw [e]; decide) ?_
      show bz (x_Case_isOver X) ∧ post (x_Case_isOver X) X
      rw [e]
      exact ⟨Or.inr rfl, h1 X L i fj rfl (fun _ _ => rfl) dr (by omega)⟩
    · rw [xa.2.2.2.2.2]
      refine no1 (writeNext_ok hn hm hf h3 (xb.xe fj xa) dr (by omega) (fun ln X1 wn s xa1 dr1 => ya1 ?_) (fun nw X1 s => no1 (h0 (Or.inl nw) X1 (fj.tr s))))
      obtain ⟨sd, o3, _, _⟩ := WN_sd hK wn
      have v : vp_in (nI i) 400 := vp_in_nI (by omega) (by decide)
      have q := dr1.2 i (by omega)
      rw [updL_s] at q
      refine ⟨v, ?_⟩
      rw [nI_clamp (show i < 2 ^ 31 by omega), q.1, q.2.1, q.2.2]
      have fo := follow'_ok (post := fun X3 => wp_Judge_write_draft_7 (fun X6 => post 0 X6) (fun X7 => bz (x_Case_isOver X7) ∧ post (x_Case_isOver X7) X7) post (m + 1) X3 nn (nI i + 1)) hK o3.2 xa1 sd (fun X' fc xo' => ?_)
      · exact ⟨fo.1, fun z => ⟨v, v, fo.2 z⟩⟩
      · rw [nI_1]
        refine ih (i + 1) _ X' (updL L i ln) (by omega) ((fj.tr s).tr fc.fj) xo' (dr1.fc fc) (fun X'' L' c s' pv e dr' c4 => ?_) (fun pf X'' s' => h0 (Or.inr ⟨ln, wn, pf⟩) X'' s')
        have ei : L' i = ln := by rw [e i (by omega), updL_s]
        refine h1 X'' L' c s' ⟨by rw [ei]; exact wn, by rw [ei]; exact pv⟩ (fun j hj => by rw [e j (by omega), updL_n (by omega)]) dr' c4
theorem EC_line {M : ST} {d : Nat → Nat → Nat} {K f : Nat} {nn : Int32} {cs : Nat → Nat} {e : Nat} (hK : K ≤ 12) (h : EC M d K f nn cs e) : (e ≠ 0 ∧ e < 7000 ∧ WN M d K f nn cs (e / 1000, e % 1000 / 12, e % 1000 % 12) ∧ e / 1000 ≠ 1 ∧ e % 1000 < 144) ∨ (e = 0 ∧ N6 M d K cs ∧ NA M K cs 3 ∧ NA M K cs 4 ∧ NA M K cs 5 ∧ ¬ S2 M d K f nn cs) := by
  rcases h with ⟨x, y, a, rfl⟩ | ⟨n6, ⟨op, x, hop, a, no, rfl⟩ | ⟨⟨n3, n4, n5⟩, ⟨s, rfl⟩ | ⟨s, rfl⟩⟩⟩
  · have b1 := a.1.1.1
    have b2 := a.1.2.1.1
    have zz : 12 * x + y < 144 := by omega
    have z1 : (12 * x + y) / 12 = x := by omega
    have z2 : (12 * x + y) % 12 = y := by omega
    generalize 12 * x + y = z at zz z1 z2 ⊢
    have w1 : (6000 + z) / 1000 = 6 := by omega
    have w2 : (6000 + z) % 1000 = z := by omega
    rw [w1, w2, z1, z2]
    exact Or.inl ⟨by omega, by omega, Or.inl ⟨x, y, a, rfl⟩, by omega, zz⟩
  · have b1 := a.1.1
    have e1 : (1000 * op + 12 * x) / 1000 = op := by omega
    have e2 : (1000 * op + 12 * x) % 1000 / 12 = x := by omega
    have e3 : (1000 * op + 12 * x) % 1000 % 12 = 0 := by omega
    refine Or.inl ⟨by omega, by omega, Or.inr ⟨n6, ?_⟩, by omega, by omega⟩
    rw [e1, e2, e3]
    rcases hop with rfl | rfl | rfl
    · exact Or.inl ⟨x, a, rfl⟩
    · exact Or.inr ⟨no 3 (by omega) (by omega), Or.inl ⟨x, a, rfl⟩⟩
    · exact Or.inr ⟨no 3 (by omega) (by omega), Or.inr ⟨no 4 (by omega) (by omega), Or.inl ⟨x, a, rfl⟩⟩⟩
  · exact Or.inl ⟨by omega, by omega, Or.inr ⟨n6, Or.inr ⟨n3, Or.inr ⟨n4, Or.inr ⟨n5, Or.inl ⟨s, rfl⟩⟩⟩⟩⟩, by omega, by omega⟩
  · exact Or.inr ⟨rfl, n6, n3, n4, n5, s⟩
theorem FZ.nr {Y Z : ST} (s : FZ Y Z) : Fe [19, 20] [] [67, 68, 69, 70, 71, 72] [] Y Z := s.up (fun k hk => by simp only [List.mem_cons, List.not_mem_nil, or_false] at hk ⊢; omega) (fun k hk => hk) (fun k hk => by simp only [List.mem_cons, List.not_mem_nil, or_false] at hk ⊢; omega) (fun k hk => hk)
theorem FW'.nr {Y Z : ST} (s : FW' Y Z) : Fe [19, 20] [] [67, 68, 69, 70, 71, 72] [] Y Z := s.up (fun k hk => by simp only [List.mem_cons, List.not_mem_nil, or_false] at hk ⊢; omega) (fun k hk => hk) (fun k hk => by simp only [List.mem_cons, List.not_mem_nil, or_false] at hk ⊢; omega) (fun k hk => hk)
theorem mprove_ok {n K f : Nat} {M X : ST} {d : Nat → Nat → Nat} {nn : Int32} {K101 K123 : ST → Prop} {post : Int32 → ST → Prop} (hk : LampK n K X M) (hn : n ≤ 511) (hm : ML d K M) (hf : isF M K f) (h3 : 3 ≤ cn (lv M) K) : ∀ (m i : Nat) (o : Option (List (Nat × Bool))) (Y : ST) (L : Nat → Nat × Nat × Nat), i + m = 400 → FM M Y → MO o Y → (∀ r, o = some r → OKP M K r) → NR L i Y → (∀ Y' L' c, FM M Y' → PV M d K f nn m i o L' c → (∀ j, j < i → L' j = L j) → NR L' c Y' → c ≤ 400 → K123 Y') → (PF M d K f nn m o → ∀ Y', FM M Y' → K101 Y') → wp_m_prove_35 K101 K123 post (m + 1) Y nn := by
  have hK := hm.1
  intro m
  induction m with
  | zero =>
    intro i o Y L hi fm mo ok nr h1 h0
    rcases o with _ | r
    · exact yes (by rw [mo.1]; decide) (h1 Y L i fm rfl (fun _ _ => rfl) nr (by omega))
    · have okr := ok r rfl
      have l := OKP_66 okr
      have l2 := stk_len r
      refine nay (by rw [mo.1]; exact nI_nle (by show 0 < (stk r).length + 1; omega) (by show (stk r).length + 1 < _; omega)) (mpop_ok okr mo (fun Z fw ma => ?_))
      have fmZ : FM M Z := fm.tr (FW'.fm fw)
      refine ending_ok hk hn hm hf h3 fmZ okr ma (fun e W ec fz => ?_)
      have fmW : FM M W := fmZ.tr (FZ.fm fz)
      have nrW : NR L i W := (nr.fr (FW'.nr fw)).fr (FZ.nr fz)
      have i4 : i = 400 := by omega
      have full : ∀ {U : ST} {op x y : Nat} {P : ST → Prop}, FM M U → NR L i U → wp_m_write_ U (nI op) (nI x) (nI y) (fun r16 M15 => (¬ r16 = 0 → P M15) ∧ (r16 = 0 → (K101 M15))) := fun {U op x y P} fu nu => mwrite'_ok nu (by omega) (fun c => absurd c (by omega)) (fun _ => no1 (h0 trivial U fu))
      rcases EC_line hK ec with ⟨e0, e7, wn, e1, e4⟩ | ⟨e0, n6, n3, n4, n5, s⟩
      · refine nay (nI_ne0 (by omega) (by omega)) ?_
        rw [show nI e - nI e / 1000 * 1000 = nI (e % 1000) from pk_rem (d := 1000) (by omega) (by decide) (by decide)]
        refine nay (nI_pos (by omega)) (nay' (nI_ne0 (by omega) (by omega)) ?_)
        unfold wp_m_prove_87
        rw [show nI e / 1000 = nI (e / 1000) from pk_div (d := 1000) (by omega) (by decide) (by decide), r12 (show e % 1000 < 2 ^ 31 by omega), d12 (show e % 1000 < 2 ^ 31 by omega)]
        exact full fmW nrW
      · subst e0
        refine yes rfl (freePair_ok hk hn hm fmW (FZ.ma fz ma) (fun k af => ?_) (fun nf => yes (by decide) (h0 trivial W fmW)))
        have k4 := af.1.1
        refine nay (nI_pos (by omega)) (yes' rfl ?_)
        unfold wp_m_prove_87
        rw [r12 (show k < 2 ^ 31 by omega), d12 (show k < 2 ^ 31 by omega)]
        exact full (op := 1) fmW nrW
  | succ m ih =>
    intro i o Y L hi fm mo ok nr h1 h0
    rcases o with _ | r
    · exact yes (by rw [mo.1]; decide) (h1 Y L i fm rfl (fun _ _ => rfl) nr (by omega))
    · have okr := ok r rfl
      have l := OKP_66 okr
      have l2 := stk_len r
      refine nay (by rw [mo.1]; exact nI_nle (by show 0 < (stk r).length + 1; omega) (by show (stk r).length + 1 < _; omega)) (mpop_ok okr mo (fun Z fw ma => ?_))
      have fmZ : FM M Z := fm.tr (FW'.fm fw)
      refine ending_ok hk hn hm hf h3 fmZ okr ma (fun e W ec fz => ?_)
      have fmW : FM M W := fmZ.tr (FZ.fm fz)
      have nrW : NR L i W := (nr.fr (FW'.nr fw)).fr (FZ.nr fz)
      have maW := FZ.ma fz ma
      -- on with a LINE
      have on : ∀ ln Y', WN M d K f nn (cso r) ln → FM M Y' → MO (stp r ln.1 (nI ln.2.1) (nI ln.2.2)) Y' → NR (updL L i ln) (i + 1) Y' → wp_m_prove_35 K101 K123 post (m + 1) Y' nn := by
        intro ln Y' wn fm' mo' nr'
        refine ih (i + 1) _ Y' (updL L i ln) (by omega) fm' mo' (fun r' er => stp_ok hK okr (WN_sd hK wn).1 er) nr' (fun Y'' L' c s' pv ee nr'' c4 => ?_) (fun pf Y'' s' => h0 (Or.inr ⟨ln, wn, pf⟩) Y'' s')
        have ei : L' i = ln := by rw [ee i (by omega), updL_s]
        exact h1 Y'' L' c s' ⟨by rw [ei]; exact wn, by rw [ei]; exact pv⟩ (fun j hj => by rw [ee j (by omega), updL_n (by omega)]) nr'' c4
      rcases EC_line hK ec with ⟨e0, e7, wn, e1, e4⟩ | ⟨e0, n6, n3, n4, n5, s⟩
      · refine nay (nI_ne0 (by omega) (by omega)) ?_
        rw [show nI e - nI e / 1000 * 1000 = nI (e % 1000) from pk_rem (d := 1000) (by omega) (by decide) (by decide)]
        refine nay (nI_pos (by omega)) (nay' (nI_ne0 (by omega) (by omega)) ?_)
        unfold wp_m_prove_87
        rw [show nI e / 1000 = nI (e / 1000) from pk_div (d := 1000) (by omega) (by decide) (by decide), r12 (show e % 1000 < 2 ^ 31 by omega), d12 (show e % 1000 < 2 ^ 31 by omega)]
        refine mwrite'_ok nrW (by omega) (fun _ V fv nv => ya1 (nay' (nI_ne0 (by omega) (by omega)) (on _ V wn (fmW.tr (FWr.fm fv)) ?_ nv))) (fun z => absurd z (by omega))
        unfold stp
        rw [if_neg e1]
        exact (FWr.ma fv maW).go
      · subst e0
        refine yes rfl (freePair_ok hk hn hm fmW maW (fun k af => ?_) (fun nf => yes (by decide) (h0 (Or.inl ⟨n6, n3, n4, n5, s, nf⟩) W fmW)))
        have k4 := af.1.1
        have wn : WN M d K f nn (cso r) (1, k / 12, k % 12) := Or.inr ⟨n6, Or.inr ⟨n3, Or.inr ⟨n4, Or.inr ⟨n5, Or.inr ⟨s, k, af, rfl⟩⟩⟩⟩⟩
        refine nay (nI_pos (by omega)) (yes' rfl ?_)
        unfold wp_m_prove_87
        rw [r12 (show k < 2 ^ 31 by omega), d12 (show k < 2 ^ 31 by omega)]
        refine mwrite'_ok (op := 1) nrW (by omega) (fun _ V fv nv => ya1 (yes' rfl (mpart_ok okr k4 af.1.2.1.1 (FWr.ma fv maW) (fun U fu mo' => on _ U wn ((fmW.tr (FWr.fm fv)).tr (FW'.fm fu)) ?_ (nv.fr (FW'.nr fu)))))) (fun z => absurd z (by omega))
        unfold stp
        rw [if_pos rfl, nI_clamp (show k / 12 < 2 ^ 31 by omega), nI_clamp (show k % 12 < 2 ^ 31 by omega), show 12 * (k / 12) + k % 12 = k by omega]
        exact mo'
theorem mlast_ok {M : ST} {L : Nat → Nat × Nat × Nat} {c : Nat} {K183 : ST → Prop} {post : Int32 → ST → Prop} (nr : NR L c M) (hc : c ≤ 400) (h : ∀ f g e, (∀ j, j < c → f j = nI (L j).1 ∧ g j = nI (L j).2.1 ∧ e j = nI (L j).2.2) → K183 (ms_right (ms_left (ms_op M f) g) e)) : ∃ n, wp_m_prove_133 K183 post n M 0 := by
  have e1 : ∀ (f g e f' : Nat → Int32), ms_op (ms_right (ms_left (ms_op M f) g) e) f' = ms_right (ms_left (ms_op M f') g) e := by
    intro f g e f'
    show ks_sA (ks_sA (ks_sA (ks_sA M 61 f) 62 g) 63 e) 61 f' = ks_sA (ks_sA (ks_sA M 61 f') 62 g) 63 e
    rw [sA_comm (ks_sA (ks_sA M 61 f) 62 g) (show 63 ≠ 61 by decide), sA_comm (ks_sA M 61 f) (show 62 ≠ 61 by decide), sA_sA]
  have e2 : ∀ (f g e g' : Nat → Int32), ms_left (ms_right (ms_left (ms_op M f) g) e) g' = ms_right (ms_left (ms_op M f) g') e := by
    intro f g e g'
    show ks_sA (ks_sA (ks_sA (ks_sA M 61 f) 62 g) 63 e) 62 g' = ks_sA (ks_sA (ks_sA M 61 f) 62 g') 63 e
    rw [sA_comm (ks_sA (ks_sA M 61 f) 62 g) (show 63 ≠ 62 by decide), sA_sA]
  have e3 : ∀ (f g e e' : Nat → Int32), ms_right (ms_right (ms_left (ms_op M f) g) e) e' = ms_right (ms_left (ms_op M f) g) e' := fun f g e e' => sA_sA _ _ _ _
  have go : ∀ (m i : Nat) (f g e : Nat → Int32), i + m = c → (∀ j, j < i → f j = nI (L j).1 ∧ g j = nI (L j).2.1 ∧ e j = nI (L j).2.2) → wp_m_prove_133 K183 post (m + 1) (ms_right (ms_left (ms_op M f) g) e) (nI i) := by
    intro m
    induction m with
    | zero =>
      intro i f g e hi hj
      exact yes (by rw [show m_news (ms_right (ms_left (ms_op M f) g) e) = nI c from nr.1]; exact nI_le (by omega) (by omega)) (h f g e (fun j hj' => hj j (by omega)))
    | succ m ih =>
      intro i f g e hi hj
      have v : vp_in (nI i) 400 := vp_in_nI (by omega) (by decide)
      have q := nr.2 i (by omega)
      refine nay (by rw [show m_news (ms_right (ms_left (ms_op M f) g) e) = nI c from nr.1]; exact nI_ge (by omega) (by omega)) ⟨v, v, nm ?_⟩
      rw [e1, nI_clamp (show i < 2 ^ 31 by omega)]
      refine ⟨v, v, nm ?_⟩
      rw [e2]
      refine ⟨v, v, nm ?_⟩
      rw [e3, nI_1]
      refine ih (i + 1) _ _ _ (by omega) (fun j hj' => ?_)
      show upd f i (m_newOp M i) j = _ ∧ upd g i (m_newLeft M i) j = _ ∧ upd e i (m_newRight M i) j = _
      by_cases y : j = i
      · subst y; rw [pk_us, pk_us, pk_us]; exact q
      · rw [pk_un y, pk_un y, pk_un y]; exact hj j (by omega)
  have st := go c 0 (m_op M) (m_left M) (m_right M) (by omega) (fun j hj => absurd hj (by omega))
  rw [show ms_right (ms_left (ms_op M (m_op M)) (m_left M)) (m_right M) = M by
    rw [show ms_op M (m_op M) = M from sA_self M 61, show ms_left M (m_left M) = M from sA_self M 62]
    exact sA_self M 63] at st
  exact ⟨_, st⟩
theorem cpy0 {α : Type} (f g : Nat → α) {c i : Nat} (h : i < c) : va_cpy f g 0 0 c i = f i := by
  unfold va_cpy
  rw [if_pos ⟨by omega, by omega⟩, show 0 + (i - 0) = i by omega]
theorem start2_ok {Y : ST} {post : ST → Prop} (hw : m_waits Y = 0) (hn : ∀ Z, FW' Y Z → MO (some []) Z → post Z) : wp_m_freeAll Y (fun M4 => wp_m_pushCase M4 (fun M6 => post M6)) := by
  refine freeAll_ok (fun g hg => push_ok (L := []) (c := fun _ => 0) hw (by decide) trivial (fun k hk => ?_) (fun g' hg' => hn _ ?_ ?_))
  · rw [mpag]; exact hg k hk
  · exact ((((Fe.rf Y).sA (by decide) _).sA (by decide) _).sI (by decide) _)
  · exact ⟨rfl, hg'⟩
theorem ls_prove (n : Nat) (X M : ST) (a1 : Int32) (hn : n < 512) (h : Inv n X M) : wp_LR_prove X a1 (fun r X1 => wp_m_prove M a1 (fun q M1 => r = q ∧ Inv (n + 1) X1 M1)) := by
  have hu := h.up
  obtain ⟨d, hd⟩ := h
  obtain ⟨K, hk, hm⟩ := hd.ml
  have hK := hm.1
  have hc := cn_le (lv M) K
  refine bh (fun q => ?_) (fun q => nay q ⟨rfl, hu⟩)
  refine isTooSmall_ok hk (fun c3 => no2 ?_) (fun c3 => ya2 (yes q (lit_ok hk (nay (nI_ge (b := 3) c3 (by decide)) ⟨rfl, hu⟩))))
  obtain ⟨f, hf⟩ := isF_ex (M := M) (K := K) (by omega)
  refine beginE_ok hd (by omega) hm hk (fun X1 X2 m p hX1 sv hs fx rk c0 => ?_)
  have hk1 := hk.sv sv
  have hk2 : LampK n K X2 M := FX.lamp fx hk1
  have xb : XB n M d K X2 := by
    refine ⟨hk2, ⟨m, p, rk⟩, ?_⟩
    rw [show x_Lamps_needs X2 = _ from fx.2.2.1 25 (by decide)]
    exact fun l hl j hj => (ISurv.at hX1 hm hs hl).2.2 j hj
  have fd : FD X2 (xs_draft_count X2 0) := (Fe.rf X2).sI (by decide) _
  -- the model's run
  have mm : ∀ {P : Int32 → ST → Prop}, (∀ Y' L' c, FM M Y' → PV M d K f a1 400 0 (some []) L' c → NR L' c Y' → c ≤ 400 → ∀ M21 : ST, M21 = ms_lines Y' (m_news Y') → ∃ n, wp_m_prove_133 (fun M25 => P (m_lines M25) M25) P n M21 0) → (PF M d K f a1 400 (some []) → ∀ Y', FM M Y' → P (-9) Y') → wp_m_prove M a1 P := by
    intro P p1 p0
    refine yes q (lit_ok hk (yes (nI_le (a := 3) c3 (by omega)) (nm (nm ?_))))
    have fm0 : FM M (ms_waits (ms_news M 0) 0) := ((Fe.rf M).sI (by decide) _).sI (by decide) _
    refine start2_ok rfl (fun Z fw mo => ⟨_, mprove_ok hk (by omega) hm hf c3 400 0 (some []) Z (fun _ => (0, 0, 0)) (by omega) (fm0.tr (FW'.fm fw)) mo (fun r e => ?_) ?_ (fun Y' L' c s pv _ nr c4 => p1 Y' L' c s pv nr c4) p0⟩)
    · have e := Option.some.inj e
      subst e
      trivial
    · refine ⟨(fw.1 21 (by decide)), fun j hj => absurd hj (by omega)⟩
  refine nm ⟨_, xprove_ok (post := fun r6 X5 => (¬ r6 = 0 → wp_proof_copyFrom_draft X5 (fun X7 => wp_m_prove M a1 (fun q M1 => x_proof_count X7 = q ∧ Inv (n + 1) X7 M1))) ∧ (r6 = 0 → wp_m_prove M a1 (fun q M1 => -9 = q ∧ Inv (n + 1) X5 M1))) (by omega) hm hf c3 xb 400 0 (some []) (xs_draft_count X2 0) (fun _ => (0, 0, 0)) (by omega) fd.fj (Or.inr ⟨[], rfl, fd.xa (XA0 c0)⟩) ⟨rfl, fun j hj => absurd hj (by omega)⟩ (fun X' L c s pv _ dr c4 => ya1 ?_) (fun pf X' s => no1 (mm (fun Y' L' c fm pv _ _ => (PV_pf hK _ _ _ _ _ pv pf).elim) (fun _ Y' fm => ⟨rfl, Inv.up ⟨d, fm.inv (FX.inv (fx.tr s.fx) hX1)⟩⟩)))⟩
  have z0 : (0 : Int32).toNatClampNeg = 0 := rfl
  have le : 0 + c ≤ 400 := by omega
  have e1 : ∀ f, x_draft_count (xs_proof_ops X' f) = nI c := fun f => dr.1
  have e2 : ∀ f g, x_draft_count (xs_proof_as (xs_proof_ops X' f) g) = nI c := fun f g => dr.1
  have e3 : ∀ f g e, x_draft_count (xs_proof_bs (xs_proof_as (xs_proof_ops X' f) g) e) = nI c := fun f g e => dr.1
  unfold wp_proof_copyFrom_draft
  rw [dr.1, nI_clamp (show c < 2 ^ 31 by omega), z0]
  refine ⟨by decide, by decide, nI_pos (by omega), le, le, nm ?_⟩
  rw [e1, nI_clamp (show c < 2 ^ 31 by omega)]
  refine ⟨by decide, by decide, nI_pos (by omega), le, le, nm ?_⟩
  rw [e2, nI_clamp (show c < 2 ^ 31 by omega)]
  refine ⟨by decide, by decide, nI_pos (by omega), le, le, nm (nm ?_)⟩
  rw [e3]
  refine mm (fun Y' L' c' fm pv' nr c4' => nm ?_) (fun pf => (PV_pf hK _ _ _ _ _ pv pf).elim)
  obtain ⟨ec, eL⟩ := PV_u hK _ _ _ _ _ _ _ pv pv'
  subst ec
  rw [nr.1]
  refine mlast_ok (L := L') (c := c) ⟨nr.1, nr.2⟩ c4 (fun f1 g1 h1 hj => ⟨rfl, Inv.up ⟨d, ?_⟩⟩)
  have hi := fm.inv (FX.inv (fx.tr s.fx) hX1)
  have op := PV_op hK _ _ _ _ _ pv
  obtain ⟨i1, i2, i3, i4, i5, i6, i7⟩ := hi
  refine ⟨(i1.fr rfl rfl rfl rfl rfl rfl rfl rfl rfl rfl), (i2.fr rfl rfl rfl rfl rfl rfl), (i3.fr rfl (proofW _ _ _ _) rfl rfl rfl rfl rfl rfl), (i4.fr rfl rfl rfl rfl rfl rfl rfl rfl rfl rfl rfl rfl), (i5.fr rfl (proofG _ _ _ _) rfl rfl rfl rfl rfl rfl rfl), (i6.fr rfl rfl rfl rfl rfl rfl), ?_⟩
  refine ⟨c, c4, rfl, rfl, fun i hi => ?_⟩
  have a := dr.2 i hi
  have b := hj i hi
  have o := op i (Nat.zero_le _) hi
  rw [← eL i (Nat.zero_le _) hi] at b
  show va_cpy (x_draft_ops X') (x_proof_ops X') 0 0 c i = f1 i ∧ va_cpy (x_draft_as X') (x_proof_as X') 0 0 c i = g1 i ∧ va_cpy (x_draft_bs X') (x_proof_bs X') 0 0 c i = h1 i ∧ ∃ o, 1 ≤ o ∧ o ≤ 6 ∧ f1 i = nI o
  rw [cpy0 _ _ hi, cpy0 _ _ hi, cpy0 _ _ hi, a.1, a.2.1, a.2.2, b.1, b.2.1, b.2.2]
  exact ⟨rfl, rfl, rfl, (L i).1, o.1, o.2, rfl⟩
