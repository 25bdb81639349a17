/-! PURE: which LINE is written; the model -/
/-- how the model tells a LINE -/
def EC (M : ST) (d : Nat → Nat → Nat) (K f : Nat) (nn : Int32) (cs : Nat → Nat) (e : Nat) : Prop := (∃ x y, A6 M d K cs x y ∧ e = 6000 + (12 * x + y)) ∨ (N6 M d K cs ∧ ((∃ op x, (op = 3 ∨ op = 4 ∨ op = 5) ∧ AA M K cs op x ∧ (∀ o, 3 ≤ o → o < op → NA M K cs o) ∧ e = 1000 * op + 12 * x) ∨ ((NA M K cs 3 ∧ NA M K cs 4 ∧ NA M K cs 5) ∧ ((S2 M d K f nn cs ∧ e = 2000) ∨ (¬ S2 M d K f nn cs ∧ e = 0)))))
theorem ix1000 (a b : Nat) : 1000 * nI a + 12 * nI b = nI (1000 * a + 12 * b) := by
  have e1 : (1000 : Int32) * nI a = nI (1000 * a) := (Int32.ofNat_mul 1000 a).symm
  have e2 : (12 : Int32) * nI b = nI (12 * b) := (Int32.ofNat_mul 12 b).symm
  rw [e1, e2, nI_add]
theorem ending_ok {n K f : Nat} {M X Y : ST} {d : Nat → Nat → Nat} {r : List (Nat × Bool)} {nn : Int32} {post : Int32 → ST → Prop} (hk : LampK n K X M) (hn : n ≤ 511) (hm : ML d K M) (hf : isF M K f) (h3 : 3 ≤ cn (lv M) K) (fm : FM M Y) (ok : OKP M K r) (ma : MA r Y) (h : ∀ e Z, EC M d K f nn (cso r) e → FZ Y Z → post (nI e) Z) : wp_m_ending Y nn post := by
  have hK := hm.1
  have lt : ∀ {x y}, S6 M d K (cso r) x y → x < K ∧ y < K := fun s => ⟨s.1.1, s.2.1.1⟩
  -- the last question: PRICES
  have fin : N6 M d K (cso r) → NA M K (cso r) 3 → NA M K (cso r) 4 → NA M K (cso r) 5 → ∀ Z, FZ Y Z → wp_m_tree Z (fun r18 M17 => (r18 < (nn.toInt64) → (post 0 M17)) ∧ (¬ r18 < (nn.toInt64) → (post 2000 M17))) := by
    intro n6 n3 n4 n5 Z fz
    refine mprices_ok (nn := nn) hk hn hm hf h3 (fm.tr (FZ.fm fz)) (FZ.ma fz ma) (fun W v fw q => bh (fun z => h 0 W (Or.inr ⟨n6, Or.inr ⟨⟨n3, n4, n5⟩, Or.inr ⟨fun w => q.mp w z, rfl⟩⟩⟩) (fz.tr fw)) (fun z => h 2000 W (Or.inr ⟨n6, Or.inr ⟨⟨n3, n4, n5⟩, Or.inl ⟨q.mpr z, rfl⟩⟩⟩) (fz.tr fw)))
  -- one kind of LINE with one LAMP
  have one : N6 M d K (cso r) → ∀ (op : Nat) (K81 : ST → Int32 → Int32 → Prop), (op = 3 ∨ op = 4 ∨ op = 5) → (∀ o, 3 ≤ o → o < op → NA M K (cso r) o) → (∀ Z, FZ Y Z → NA M K (cso r) op → K81 Z nn (nI op)) → ∀ Z, FZ Y Z → ∃ k, wp_m_ending_45 (fun M12 v13 v14 => post ((1000 * v13) + (12 * v14)) M12) K81 post k Z nn (nI op) 0 := by
    intro n6 op K81 hop hno h81
    have go : ∀ (m a : Nat) (Z : ST), a + m = K → FZ Y Z → (∀ x, x < a → ¬ SA M K (cso r) op x) → wp_m_ending_45 (fun M12 v13 v14 => post ((1000 * v13) + (12 * v14)) M12) K81 post (m + 1) Z nn (nI op) (nI a) := by
      intro m
      induction m with
      | zero =>
        intro a Z ha fz hx
        have el : m_lamps Z = nI K := ((fm.tr (FZ.fm fz)).1 16 (by decide)).trans hm.2.1
        exact yes (by rw [el]; exact nI_le (by omega) (by omega)) (h81 Z fz (fun x s => hx x (by have := s.1; omega) s))
      | succ m ih =>
        intro a Z ha fz hx
        have fmZ : FM M Z := fm.tr (FZ.fm fz)
        have el : m_lamps Z = nI K := (fmZ.1 16 (by decide)).trans hm.2.1
        have next : ∀ W, FZ Z W → ¬ SA M K (cso r) op a → wp_m_ending_45 (fun M12 v13 v14 => post ((1000 * v13) + (12 * v14)) M12) K81 post (m + 1) W nn (nI op) (nI (a + 1)) := by
          intro W fw q
          refine ih (a + 1) W (by omega) (fz.tr fw) (fun x hx' => ?_)
          by_cases e : x = a
          · subst e; exact q
          · exact hx x (by omega)
        refine nay (by rw [el]; exact nI_ge (by omega) (by omega)) ?_
        rw [nI_1]
        by_cases o : m_isOut M a = 0
        · refine malone_ok hm fmZ ok (FZ.ma fz ma) hop (by omega) o (fun s W fw => ya2 ?_) (fun s W fw => no2 (next W fw s))
          show post (1000 * nI op + 12 * nI a) W
          rw [ix1000]
          exact h _ W (Or.inr ⟨n6, Or.inl ⟨op, a, hop, ⟨s, hx⟩, hno, rfl⟩⟩) (fz.tr fw)
        · exact malone0_ok hm fmZ hop (Or.inr ⟨a, by omega, rfl, o⟩) (no2 (next Z (Fe.rf Z) (fun s => o s.2.1)))
    exact fun Z fz => ⟨_, go K 0 Z (by omega) fz (fun x hx => absurd hx (by omega))⟩
  have mid : N6 M d K (cso r) → ∃ k, wp_m_ending_38 (fun M12 v13 v14 => post ((1000 * v13) + (12 * v14)) M12) (fun M15 v16 => wp_m_tree M15 (fun r18 M17 => (r18 < (v16.toInt64) → (post 0 M17)) ∧ (¬ r18 < (v16.toInt64) → (post 2000 M17)))) post k Y nn 3 := by
    intro n6
    refine ⟨4, nay (by decide) (one n6 3 _ (Or.inl rfl) (fun o a b => absurd b (by omega)) (fun Z fz n3 => ?_) Y (Fe.rf Y))⟩
    refine nay (by decide) (one n6 4 _ (Or.inr (Or.inl rfl)) (fun o a b => by rw [show o = 3 by omega]; exact n3) (fun Z fz n4 => ?_) Z fz)
    refine nay (by decide) (one n6 5 _ (Or.inr (Or.inr rfl)) (fun o a b => ?_) (fun Z fz n5 => ?_) Z fz)
    · rcases (by omega : o = 3 ∨ o = 4) with rfl | rfl
      · exact n3
      · exact n4
    · exact yes (by decide) (fin n6 n3 n4 n5 Z fz)
  have go : ∀ (m k : Nat), k + m = 144 → (∀ x y, S6 M d K (cso r) x y → k ≤ 12 * x + y) → wp_m_ending_2 (fun M3 v4 => post (6000 + v4) M3) (fun M5 v6 => ∃ n, wp_m_ending_38 (fun M12 v13 v14 => post ((1000 * v13) + (12 * v14)) M12) (fun M15 v16 => wp_m_tree M15 (fun r18 M17 => (r18 < (v16.toInt64) → (post 0 M17)) ∧ (¬ r18 < (v16.toInt64) → (post 2000 M17)))) post n M5 v6 3) post (m + 1) Y nn (nI k) := by
    intro m
    induction m with
    | zero =>
      intro k hk' hno
      refine yes (nI_le (a := 144) (by omega) (by omega)) (mid (fun x y s => ?_))
      have := hno x y s
      have := lt s
      omega
    | succ m ih =>
      intro k hk' hno
      refine nay (nI_ge (b := 144) (by omega) (by decide)) ?_
      rw [r12 (show k < 2 ^ 31 by omega), d12 (show k < 2 ^ 31 by omega)]
      refine mtwins_ok fm hm ma (fun q => ya2 ?_) (fun q => no2 ?_)
      · obtain ⟨x, y, ea, eb, s⟩ := q
        have l := lt s
        have ea := (nI_eq (by omega) (by omega)).mp ea
        have eb := (nI_eq (by omega) (by omega)).mp eb
        rw [show (6000 : Int32) + nI k = nI (6000 + k) from nI_add 6000 k]
        refine h _ Y (Or.inl ⟨x, y, ⟨s, fun x' y' s' => ?_⟩, by omega⟩) (Fe.rf Y)
        have := hno x' y' s'
        omega
      · rw [nI_1]
        refine ih (k + 1) (by omega) (fun x y s => ?_)
        have := hno x y s
        have l := lt s
        by_cases e : k = 12 * x + y
        · exact absurd s (q x y (by rw [show k / 12 = x by omega]) (by rw [show k % 12 = y by omega]))
        · omega
  exact ⟨_, go 144 0 (by omega) (fun x y _ => Nat.zero_le _)⟩
theorem key_cmp {M : ST} {d : Nat → Nat → Nat} {K k x : Nat} (hm : ML d K M) (hb : PB M K) (lk : lpM M K k) (lx : lpM M K x) (k4 : k < 144) (hx : x < k) : (wL M d (k / 12) (k % 12) ≠ FARN → wL M d (x / 12) (x % 12) ≠ FARN → (key M d k < key M d x ↔ pvM M d k < pvM M d x)) ∧ (wL M d (k / 12) (k % 12) ≠ FARN → wL M d (x / 12) (x % 12) = FARN → key M d k < key M d x) ∧ (wL M d (k / 12) (k % 12) = FARN → key M d x < key M d k) := by
  have ck := kcode_lt k4
  have cx := kcode_lt (show x < 144 by omega)
  have cc : kcode x < kcode k := by unfold kcode; omega
  refine ⟨fun a b => ?_, fun a b => ?_, fun a => ?_⟩
  · unfold key pkU
    rw [if_neg a, if_neg b]
    omega
  · have := pv_b hm hb lk a
    unfold key pkU
    rw [if_neg a, if_pos b]
    omega
  · unfold key pkU
    rw [if_pos a]
    split
    · omega
    · next b => have := pv_b hm hb lx b; omega
theorem freePair_ok {n K : Nat} {M X Y : ST} {d : Nat → Nat → Nat} {r : List (Nat × Bool)} {post : Int32 → ST → Prop} (hk : LampK n K X M) (hn : n ≤ 511) (hm : ML d K M) (fm : FM M Y) (ma : MA r Y) (h1 : ∀ k, AF M d K (cso r) k → post (nI k) Y) (h0 : (∀ k, ¬ FPk M K (cso r) k) → post (-1) Y) : wp_m_freePair Y post := by
  have hb := hk.pb (show n ≤ 600 by omega)
  have go : ∀ (m k : Nat) (l1 : Int32), k + m = 144 → ((l1 = -1 ∧ ∀ q, q < k → ¬ FPk M K (cso r) q) ∨ ∃ x, l1 = nI x ∧ x < k ∧ FPk M K (cso r) x ∧ ∀ q, q < k → FPk M K (cso r) q → q = x ∨ key M d x < key M d q) → wp_m_freePair_4 (fun M15 v16 => post v16 M15) post (m + 1) Y l1 (nI k) := by
    intro m
    induction m with
    | zero =>
      intro k l1 hk' hl
      refine yes (nI_le (a := 144) (by omega) (by omega)) ?_
      rcases hl with ⟨rfl, q⟩ | ⟨x, rfl, x1, x2, x3⟩
      · exact h0 (fun z fz => q z (by have := fz.1; omega) fz)
      · exact h1 x ⟨x2, fun q fq => x3 q (by have := fq.1; omega) fq⟩
    | succ m ih =>
      intro k l1 hk' hl
      have k4 : k < 144 := by omega
      have cl := cso_le r k
      have skip : ¬ FPk M K (cso r) k → wp_m_freePair_4 (fun M15 v16 => post v16 M15) post (m + 1) Y l1 (nI k + 1) := by
        intro no
        rw [nI_1]
        refine ih (k + 1) l1 (by omega) ?_
        rcases hl with ⟨e, q⟩ | ⟨x, e, x1, x2, x3⟩
        · refine Or.inl ⟨e, fun z hz => ?_⟩
          by_cases y : z = k
          · subst y; exact no
          · exact q z (by omega)
        · refine Or.inr ⟨x, e, by omega, x2, fun z hz fz => ?_⟩
          by_cases y : z = k
          · subst y; exact absurd fz no
          · exact x3 z (by omega) fz
      refine nay (nI_ge (b := 144) k4 (by decide)) (mpair_ok fm hm k4 (fun lp => ya2 ⟨vp_in_nI k4 (by decide), ?_⟩) (fun lp => no2 (skip (fun z => lp z.2.1))))
      rw [nI_clamp (show k < 2 ^ 31 by omega), ma.2.2 k k4]
      refine bn (fun c => skip (fun z => c (by rw [z.2.2]; rfl))) (fun c => ?_)
      have fk : FPk M K (cso r) k := ⟨k4, lp, (nI_eq (b := 0) (by omega) (by decide)).mp c⟩
      -- this one, or the one so far
      have this1 : (∀ q, q < k → FPk M K (cso r) q → key M d k < key M d q) → wp_m_freePair_4 (fun M15 v16 => post v16 M15) post (m + 1) Y (nI k) (nI k + 1) := by
        intro q
        rw [nI_1]
        refine ih (k + 1) (nI k) (by omega) (Or.inr ⟨k, rfl, by omega, fk, fun z hz fz => ?_⟩)
        by_cases y : z = k
        · exact Or.inl y
        · exact Or.inr (q z (by omega) fz)
      rcases hl with ⟨rfl, q⟩ | ⟨x, rfl, x1, x2, x3⟩
      · exact yes (by decide) (yes (by decide) (ya2 (this1 (fun z hz fz => absurd fz (q z hz)))))
      · have x4 : x < 144 := by omega
        have cmp := key_cmp hm hb lp x2.2.1 k4 x1
        have px : ¬ nI x < 0 := nI_pos (by omega)
        have take : key M d k < key M d x → wp_m_freePair_4 (fun M15 v16 => post v16 M15) post (m + 1) Y (nI k) (nI k + 1) := fun lt => this1 (fun z hz fz => by
          rcases x3 z hz fz with w | w
          · rw [w]; exact lt
          · omega)
        have keep : key M d x < key M d k → wp_m_freePair_4 (fun M15 v16 => post v16 M15) post (m + 1) Y (nI x) (nI k + 1) := by
          intro lt
          rw [nI_1]
          refine ih (k + 1) (nI x) (by omega) (Or.inr ⟨x, rfl, by omega, x2, fun z hz fz => ?_⟩)
          by_cases y : z = k
          · rw [y]; exact Or.inr lt
          · exact x3 z (by omega) fz
        refine nay px (mway_ok fm hm k4 lp (fun wk => mway_ok fm hm x4 x2.2.1 (fun wx => yes rfl ?_) (fun wx => nay (by decide) ?_)) (fun wk => mway_ok fm hm x4 x2.2.1 (fun wx => nay (by decide) ?_) (fun wx => yes rfl ?_)))
        · have pk := pv_b hm hb lp wk
          have pxv := pv_b hm hb x2.2.1 wx
          refine mway_ok fm hm k4 lp (fun _ => ya2 (mpriced_ok fm hm k4 lp (mpriced_ok fm hm x4 x2.2.1 (bh (fun c2 => no2 (keep ?_)) (fun c2 => ya2 (take ?_)))))) (fun z => absurd z wk)
          · have c2 := (oL_le (by omega) (by omega) (by omega) (by omega)).mp c2
            have nq : ¬ key M d k < key M d x := fun z => by have := (cmp.1 wk wx).mp z; omega
            have ne : key M d k ≠ key M d x := fun z => by have := key_u k4 x4 z; omega
            omega
          · refine (cmp.1 wk wx).mpr ?_
            have : ¬ pvM M d x ≤ pvM M d k := fun z => c2 ((oL_le (by omega) (by omega) (by omega) (by omega)).mpr z)
            omega
        · exact nay px (mway_ok fm hm k4 lp (fun _ => ya2 (ya2 (take (cmp.2.1 wk wx)))) (fun z => absurd z wk))
        · exact nay px (mway_ok fm hm k4 lp (fun z => absurd wk z) (fun _ => no2 (no2 (keep (cmp.2.2 wk)))))
        · exact mway_ok fm hm k4 lp (fun z => absurd wk z) (fun _ => no2 (no2 (keep (cmp.2.2 wk))))
  exact ⟨_, go 144 0 (-1) (by omega) (Or.inl ⟨rfl, fun q hq => absurd hq (by omega)⟩)⟩
/-- the LINES that are written so far, in the model -/
def NR (L : Nat → Nat × Nat × Nat) (i : Nat) (Y : ST) : Prop := m_news Y = nI i ∧ ∀ j, j < i → m_newOp Y j = nI (L j).1 ∧ m_newLeft Y j = nI (L j).2.1 ∧ m_newRight Y j = nI (L j).2.2
theorem NR.fr {L : Nat → Nat × Nat × Nat} {i : Nat} {Y Z : ST} (h : NR L i Y) (s : Fe [19, 20] [] [67, 68, 69, 70, 71, 72] [] Y Z) : NR L i Z := by
  unfold NR at h ⊢
  rw [show m_news Z = _ from s.1 21 (by decide), show m_newOp Z = _ from s.2.2.1 73 (by decide), show m_newLeft Z = _ from s.2.2.1 74 (by decide), show m_newRight Z = _ from s.2.2.1 75 (by decide)]
  exact h
abbrev FWr : ST → ST → Prop := Fe [21] [] [73, 74, 75] []
theorem FWr.fm {M M' : ST} (s : FWr M M') : FM M M' := s.up (fun k hk => by simp only [List.mem_cons, List.not_mem_nil, or_false] at hk ⊢; omega) (fun k hk => hk) (fun k hk => by simp only [List.mem_cons, List.not_mem_nil, or_false] at hk ⊢; omega) (fun k hk => hk)
theorem FWr.ma {r : List (Nat × Bool)} {Y Z : ST} (s : FWr Y Z) (h : MA r Y) : MA r Z := by
  unfold MA at h ⊢
  rw [show m_waits Z = _ from s.1 20 (by decide), show m_waiting Z = _ from s.2.2.1 71 (by decide), show m_pairs Z = _ from s.2.2.1 67 (by decide)]
  exact h
theorem mwrite'_ok {L : Nat → Nat × Nat × Nat} {i op x y : Nat} {Y : ST} {post : Int32 → ST → Prop} (nr : NR L i Y) (hi : i ≤ 400) (h1 : i < 400 → ∀ Z, FWr Y Z → NR (updL L i (op, x, y)) (i + 1) Z → post 1 Z) (h0 : i = 400 → post 0 Y) : wp_m_write_ Y (nI op) (nI x) (nI y) post := by
  unfold wp_m_write_
  rw [nr.1]
  refine bn (fun c => ?_) (fun c => h0 ((nI_eq (b := 400) (by omega) (by decide)).mp c))
  have c : i ≠ 400 := fun z => c (by rw [z]; rfl)
  have v : vp_in (nI i) 400 := vp_in_nI (by omega) (by decide)
  rw [nI_clamp (show i < 2 ^ 31 by omega)]
  refine ⟨v, nm ?_⟩
  rw [show ∀ f, m_news (ms_newOp Y f) = nI i from fun f => nr.1, nI_clamp (show i < 2 ^ 31 by omega)]
  refine ⟨v, nm ?_⟩
  rw [show ∀ f g, m_news (ms_newLeft (ms_newOp Y f) g) = nI i from fun f g => nr.1, nI_clamp (show i < 2 ^ 31 by omega)]
  refine ⟨v, nm (nm ?_)⟩
  rw [show ∀ f g e, m_news (ms_newRight (ms_newLeft (ms_newOp Y f) g) e) = nI i from fun f g e => nr.1, nI_1]
  refine h1 (by omega) _ (((((Fe.rf Y).sA (by decide) _).sA (by decide) _).sA (by decide) _).sI (by decide) _) ⟨rfl, fun j hj => ?_⟩
  show upd (m_newOp Y) i (nI op) j = _ ∧ upd (m_newLeft Y) i (nI x) j = _ ∧ upd (m_newRight Y) i (nI y) j = _
  by_cases e : j = i
  · subst e
    rw [pk_us, pk_us, pk_us, updL_s]
    exact ⟨rfl, rfl, rfl⟩
  · rw [pk_un e, pk_un e, pk_un e, updL_n e]
    exact nr.2 j (by omega)
