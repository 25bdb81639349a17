/-! PURE: the model's cases that wait -/
def MSt (w : Nat → Int32) : List (Nat → Nat) → Prop
  | [] => True
  | c :: L => (∀ k, k < 144 → w (144 * L.length + k) = nI (c k)) ∧ MSt w L
theorem MSt_congr {w w' : Nat → Int32} : ∀ {L : List (Nat → Nat)}, (∀ i, i < 144 * L.length → w' i = w i) → MSt w L → MSt w' L
  | [], _, _ => trivial
  | c :: L, e, h => by
    have hl : (c :: L).length = L.length + 1 := rfl
    exact ⟨fun k hk => (e _ (by rw [hl]; omega)).trans (h.1 k hk), MSt_congr (fun i hi => e i (by rw [hl]; omega)) h.2⟩
theorem ix144 (a b : Nat) : 144 * nI a + nI b = nI (144 * a + b) := by
  have : (144 : Int32) * nI a = nI (144 * a) := (Int32.ofNat_mul 144 a).symm
  rw [this, nI_add]
theorem mwt2 (M : ST) (f g : Nat → Int32) : ms_waiting (ms_waiting M f) g = ms_waiting M g := sA_sA _ _ _ _
theorem mwtg (M : ST) (f : Nat → Int32) : m_waiting (ms_waiting M f) = f := gA_sA _ _ _
theorem mwts (M : ST) : ms_waiting M (m_waiting M) = M := sA_self M 71
theorem mpa2 (M : ST) (f g : Nat → Int32) : ms_pairs (ms_pairs M f) g = ms_pairs M g := sA_sA _ _ _ _
theorem mpag (M : ST) (f : Nat → Int32) : m_pairs (ms_pairs M f) = f := gA_sA _ _ _
theorem mpas (M : ST) : ms_pairs M (m_pairs M) = M := sA_self M 67
theorem push_ok {Y : ST} {L : List (Nat → Nat)} {c : Nat → Nat} {post : ST → Prop} (hw : m_waits Y = nI L.length) (hL : L.length ≤ 79) (hs : MSt (m_waiting Y) L) (hc : ∀ k, k < 144 → m_pairs Y k = nI (c k)) (h : ∀ g, MSt g (c :: L) → post (ms_waits (ms_waiting Y g) (nI (L.length + 1)))) : wp_m_pushCase Y post := by
  have go : ∀ (m i : Nat) (g : Nat → Int32), i + m = 144 → (∀ j, j < 144 * L.length → g j = m_waiting Y j) → (∀ k, k < i → g (144 * L.length + k) = nI (c k)) → wp_m_pushCase_2 (fun M2 => ∀ M3 : ST, M3 = ms_waits M2 ((m_waits M2) + 1) → post M3) post (m + 1) (ms_waiting Y g) (nI i) := by
    intro m
    induction m with
    | zero =>
      intro i g hi h1 h2
      refine yes (nI_le (a := 144) (by omega) (by omega)) (nm ?_)
      rw [show m_waits (ms_waiting Y g) = nI L.length from hw, nI_1]
      exact h g ⟨fun k hk => h2 k (by omega), MSt_congr h1 hs⟩
    | succ m ih =>
      intro i g hi h1 h2
      refine nay (nI_ge (b := 144) (by omega) (by decide)) ⟨vp_in_nI (by omega) (by decide), ?_⟩
      rw [show m_waits (ms_waiting Y g) = nI L.length from hw, ix144, nI_clamp (show 144 * L.length + i < 2 ^ 31 by omega), nI_clamp (show i < 2 ^ 31 by omega)]
      refine ⟨vp_in_nI (by omega) (by decide), nm ?_⟩
      rw [mwt2, mwtg, show m_pairs (ms_waiting Y g) i = nI (c i) from hc i (by omega), nI_1]
      refine ih (i + 1) _ (by omega) (fun j hj => ?_) (fun k hk => ?_)
      · rw [pk_un (by omega)]; exact h1 j hj
      · by_cases y : k = i
        · subst y; rw [pk_us]
        · rw [pk_un (by omega)]; exact h2 k (by omega)
  have st := go 144 0 (m_waiting Y) (by omega) (fun _ _ => rfl) (fun k hk => absurd hk (by omega))
  rw [mwts] at st
  exact ⟨_, st⟩
theorem pop_ok {Y : ST} {L : List (Nat → Nat)} {c : Nat → Nat} {post : ST → Prop} (hw : m_waits Y = nI (L.length + 1)) (hL : L.length ≤ 79) (hs : MSt (m_waiting Y) (c :: L)) (h : ∀ g, (∀ k, k < 144 → g k = nI (c k)) → post (ms_pairs (ms_waits Y (nI L.length)) g)) : wp_m_popCase Y post := by
  refine nm ?_
  rw [hw, nI_pred]
  have go : ∀ (m i : Nat) (g : Nat → Int32), i + m = 144 → (∀ k, k < i → g k = nI (c k)) → wp_m_popCase_12 (fun M3 => post M3) post (m + 1) (ms_pairs (ms_waits Y (nI L.length)) g) (nI i) := by
    intro m
    induction m with
    | zero =>
      intro i g hi h1
      exact yes (nI_le (a := 144) (by omega) (by omega)) (h g (fun k hk => h1 k (by omega)))
    | succ m ih =>
      intro i g hi h1
      refine nay (nI_ge (b := 144) (by omega) (by decide)) ?_
      rw [show m_waits (ms_pairs (ms_waits Y (nI L.length)) g) = nI L.length from rfl, ix144, nI_clamp (show 144 * L.length + i < 2 ^ 31 by omega), nI_clamp (show i < 2 ^ 31 by omega)]
      refine ⟨vp_in_nI (by omega) (by decide), vp_in_nI (by omega) (by decide), nm ?_⟩
      rw [mpa2, mpag, show m_waiting (ms_pairs (ms_waits Y (nI L.length)) g) (144 * L.length + i) = nI (c i) from hs.1 i (by omega), nI_1]
      refine ih (i + 1) _ (by omega) (fun k hk => ?_)
      by_cases y : k = i
      · subst y; rw [pk_us]
      · rw [pk_un y]; exact h1 k (by omega)
  have st := go 144 0 (m_pairs (ms_waits Y (nI L.length))) (by omega) (fun k hk => absurd hk (by omega))
  rw [mpas] at st
  exact ⟨_, st⟩
theorem mpairOf_ok {Y : ST} {a b : Nat} {post : Int32 → ST → Prop} (ha : a < 12) (hb : b < 12) (hab : a ≠ b) (h : post (nI (pai a b)) Y) : wp_m_pairOf Y (nI a) (nI b) post := by
  unfold wp_m_pairOf
  rw [ix12, ix12]
  unfold pai at h
  refine bh (fun c => ?_) (fun c => ?_)
  · have c := (nI_leI (by omega) (by omega)).mp c
    rw [if_neg (by omega)] at h
    exact h
  · have c : ¬ b ≤ a := fun z => c (nI_le z (by omega))
    rw [if_pos (by omega)] at h
    exact h
abbrev FW' : ST → ST → Prop := Fe [20] [] [67, 71] []
theorem FW'.fm {M M' : ST} (s : FW' M M') : FM M M' := s.up (fun k hk => by simp only [List.mem_cons, List.not_mem_nil, or_false] at hk ⊢; omega) (fun k hk => hk) (fun k hk => by simp only [List.mem_cons, List.not_mem_nil, or_false] at hk ⊢; omega) (fun k hk => hk)
/-- the model at the head of its loop -/
def MO (o : Option (List (Nat × Bool))) (Y : ST) : Prop := m_waits Y = nI (stO o).length ∧ MSt (m_waiting Y) (stO o)
/-- the model with a case at hand -/
def MA (r : List (Nat × Bool)) (Y : ST) : Prop := m_waits Y = nI (stk r).length ∧ MSt (m_waiting Y) (stk r) ∧ ∀ k, k < 144 → m_pairs Y k = nI (cso r k)
theorem MA.cm {r : List (Nat × Bool)} {Y : ST} (h : MA r Y) : CM (cso r) Y := fun k hk => ⟨h.2.2 k hk, cso_le r k⟩
theorem MA.go {r : List (Nat × Bool)} {Y : ST} (h : MA r Y) : MO (goP r) Y := by
  unfold MO
  rw [← stk_go r]
  exact ⟨h.1, h.2.1⟩
theorem mpop_ok {M : ST} {K : Nat} {r : List (Nat × Bool)} {Y : ST} {post : ST → Prop} (ok : OKP M K r) (h : MO (some r) Y) (hp : ∀ Z, FW' Y Z → MA r Z → post Z) : wp_m_popCase Y post := by
  have l := OKP_66 ok
  have l2 := stk_len r
  exact pop_ok (L := stk r) (c := cso r) h.1 (by omega) h.2 (fun g hg => hp _ (((Fe.rf Y).sI (by decide) _).sA (by decide) _) ⟨rfl, h.2.2, hg⟩)
theorem mpart_ok {M : ST} {K p : Nat} {r : List (Nat × Bool)} {Y : ST} {post : ST → Prop} (ok : OKP M K r) (hp4 : p < 144) (hlt : p / 12 < p % 12) (h : MA r Y) (hp : ∀ Z, FW' Y Z → MO (some ((p, false) :: r)) Z → post Z) : wp_m_part Y (nI (p / 12)) (nI (p % 12)) post := by
  have l := OKP_66 ok
  have l2 := stk_len r
  obtain ⟨h1, h2, h3⟩ := h
  have v : vp_in (nI p) 144 := vp_in_nI hp4 (by decide)
  refine mpairOf_ok (by omega) (by omega) (by omega) ?_
  rw [pai_k hlt, nI_clamp (show p < 2 ^ 31 by omega)]
  refine ⟨v, nm (push_ok (L := stk r) (c := cso ((p, true) :: r)) h1 (by omega) h2 (fun k hk => ?_) (fun g hg => mpairOf_ok (by omega) (by omega) (by omega) ?_))⟩
  · rw [mpag]
    by_cases y : k = p
    · subst y; rw [pk_us, cso_t]; rfl
    · rw [pk_un y, cso_n y]; exact h3 k hk
  · rw [pai_k hlt, nI_clamp (show p < 2 ^ 31 by omega)]
    refine ⟨v, nm (push_ok (L := cso ((p, true) :: r) :: stk r) (c := cso ((p, false) :: r)) rfl (by show (stk r).length + 1 ≤ 79; omega) hg (fun k hk => ?_) (fun g' hg' => hp _ ?_ ?_))⟩
    · rw [mpag]
      show upd (upd (m_pairs Y) p 2) p 1 k = _
      by_cases y : k = p
      · subst y; rw [pk_us, cso_f]; rfl
      · rw [pk_un y, pk_un y, cso_n y]; exact h3 k hk
    · exact (((((((Fe.rf Y).sA (by decide) _).sA (by decide) _).sI (by decide) _).sA (by decide) _).sA (by decide) _).sI (by decide) _)
    · have e : stO (some ((p, false) :: r)) = cso ((p, false) :: r) :: cso ((p, true) :: r) :: stk r := by
        show cso ((p, false) :: r) :: stk ((p, false) :: r) = _
        rw [stk_f]
      unfold MO
      rw [e]
      exact ⟨rfl, hg'⟩
