/-! PURE: the CASE that a PROOF has come to -/
/-- 0 free, 1 JOINED, 2 PARTED, by the splits on the way, the last one first -/
def cso : List (Nat × Bool) → Nat → Nat
  | [], _ => 0
  | (p, b) :: r, k => if k = p then (if b = true then 2 else 1) else cso r k
theorem cso_c (p : Nat) (b : Bool) (r : List (Nat × Bool)) (k : Nat) : cso ((p, b) :: r) k = if k = p then (if b = true then 2 else 1) else cso r k := rfl
theorem cso_n {p : Nat} {b : Bool} {r : List (Nat × Bool)} {k : Nat} (h : k ≠ p) : cso ((p, b) :: r) k = cso r k := if_neg h
theorem cso_t {p : Nat} {r : List (Nat × Bool)} : cso ((p, true) :: r) p = 2 := by rw [cso_c, if_pos rfl, if_pos rfl]
theorem cso_f {p : Nat} {r : List (Nat × Bool)} : cso ((p, false) :: r) p = 1 := by rw [cso_c, if_pos rfl, if_neg (by decide)]
theorem cso_le : ∀ (r : List (Nat × Bool)) (k : Nat), cso r k ≤ 2
  | [], _ => by show 0 ≤ 2; omega
  | (p, b) :: r, k => by
    rw [cso_c]
    have := cso_le r k
    split
    · split <;> omega
    · exact this
/-- the cases that wait -/
def stk : List (Nat × Bool) → List (Nat → Nat)
  | [] => []
  | (p, b) :: r => if b = true then stk r else cso ((p, true) :: r) :: stk r
/-- this case is proved: the next one -/
def goP : List (Nat × Bool) → Option (List (Nat × Bool))
  | [] => none
  | (p, b) :: r => if b = true then goP r else some ((p, true) :: r)
theorem goP_t (p : Nat) (r : List (Nat × Bool)) : goP ((p, true) :: r) = goP r := by unfold goP; rw [if_pos rfl]; cases r <;> rfl
theorem goP_f (p : Nat) (r : List (Nat × Bool)) : goP ((p, false) :: r) = some ((p, true) :: r) := by unfold goP; rw [if_neg (by decide)]
theorem stk_t (p : Nat) (r : List (Nat × Bool)) : stk ((p, true) :: r) = stk r := by
  show (if true = true then stk r else _) = _
  rw [if_pos rfl]
theorem stk_f (p : Nat) (r : List (Nat × Bool)) : stk ((p, false) :: r) = cso ((p, true) :: r) :: stk r := by
  show (if false = true then stk r else _) = _
  rw [if_neg (by decide)]
/-- the stack ahead of the next case -/
def stO : Option (List (Nat × Bool)) → List (Nat → Nat)
  | none => []
  | some r => cso r :: stk r
theorem stk_go : ∀ r, stk r = stO (goP r)
  | [] => rfl
  | (p, true) :: r => by rw [stk_t, goP_t]; exact stk_go r
  | (p, false) :: r => by
    rw [goP_f, stk_f]
    show _ = cso ((p, true) :: r) :: stk ((p, true) :: r)
    rw [stk_t]
theorem stk_len : ∀ r, (stk r).length ≤ r.length
  | [] => Nat.le_refl _
  | (p, true) :: r => by rw [stk_t]; have := stk_len r; show _ ≤ r.length + 1; omega
  | (p, false) :: r => by rw [stk_f]; have := stk_len r; show (stk r).length + 1 ≤ r.length + 1; omega
/-- a way of splits that can be -/
def OKP (M : ST) (K : Nat) : List (Nat × Bool) → Prop
  | [] => True
  | (p, _) :: r => (p < 144 ∧ lpM M K p ∧ cso r p = 0) ∧ OKP M K r
theorem OKP_lp {M : ST} {K : Nat} : ∀ {r : List (Nat × Bool)} {k : Nat}, OKP M K r → cso r k ≠ 0 → k < 144 ∧ lpM M K k
  | [], k, _, e => absurd rfl e
  | (p, b) :: r, k, h, e => by
    by_cases y : k = p
    · subst y; exact ⟨h.1.1, h.1.2.1⟩
    · rw [cso_n y] at e
      exact OKP_lp h.2 e
theorem OKP_len {M : ST} {K : Nat} : ∀ (r : List (Nat × Bool)), OKP M K r → r.length ≤ cn (fun k => decide (k / 12 < k % 12 ∧ cso r k ≠ 0)) 144
  | [], _ => Nat.zero_le _
  | (p, b) :: r, h => by
    have a := OKP_len r h.2
    have : cn (fun k => decide (k / 12 < k % 12 ∧ cso r k ≠ 0)) 144 < cn (fun k => decide (k / 12 < k % 12 ∧ cso ((p, b) :: r) k ≠ 0)) 144 := by
      refine cn_strict (j := p) 144 h.1.1 (fun i hi q => ?_) (decide_eq_false (fun q => q.2 h.1.2.2)) (decide_eq_true ⟨h.1.2.1.1, ?_⟩)
      · have q := of_decide_eq_true q
        refine decide_eq_true ⟨q.1, ?_⟩
        rw [cso_n (fun z => by subst z; exact q.2 h.1.2.2)]
        exact q.2
      · rw [cso_c, if_pos rfl]
        split <;> omega
    show r.length + 1 ≤ _
    omega
theorem OKP_66 {M : ST} {K : Nat} {r : List (Nat × Bool)} (h : OKP M K r) : r.length ≤ 66 := by
  have a := OKP_len r h
  have b := cn_mono (p := fun k => decide (k / 12 < k % 12 ∧ cso r k ≠ 0)) (q := fun k => decide (k / 12 < k % 12)) 144 (fun i hi q => decide_eq_true (of_decide_eq_true q).1)
  rw [cn66] at b
  omega
theorem OKP_go {M : ST} {K : Nat} : ∀ {r r' : List (Nat × Bool)}, OKP M K r → goP r = some r' → OKP M K r'
  | [], r', _, e => absurd e (by show ¬ none = _; simp)
  | (p, true) :: r, r', h, e => by rw [goP_t] at e; exact OKP_go h.2 e
  | (p, false) :: r, r', h, e => by
    rw [goP_f] at e
    have e := Option.some.inj e
    subst e
    exact h
/-! the class's sets -/
def pai (x y : Nat) : Nat := if x < y then 12 * x + y else 12 * y + x
theorem pai_c (x y : Nat) (h : x ≠ y) : pai x y = pai y x := by
  unfold pai
  by_cases e : x < y
  · rw [if_pos e, if_neg (by omega)]
  · rw [if_neg e, if_pos (by omega)]
theorem pai_l {x y : Nat} (h : x < y) : pai x y = 12 * x + y := if_pos h
theorem pai_lt {x y : Nat} (hx : x < 12) (hy : y < 12) : pai x y < 144 := by unfold pai; split <;> omega
theorem pai_k {k : Nat} (h : k / 12 < k % 12) : pai (k / 12) (k % 12) = k := by rw [pai_l h]; omega
theorem pai_eq {x y p : Nat} (hx : x < 12) (hy : y < 12) (hne : x ≠ y) (hp : p / 12 < p % 12) : pai x y = p ↔ ((x = p / 12 ∧ y = p % 12) ∨ (x = p % 12 ∧ y = p / 12)) := by
  unfold pai
  split <;> omega
theorem pai_div {x y : Nat} (hx : x < 12) (hy : y < 12) (hne : x ≠ y) : (x < y ∧ pai x y / 12 = x ∧ pai x y % 12 = y) ∨ (y < x ∧ pai x y / 12 = y ∧ pai x y % 12 = x) := by
  unfold pai
  split <;> omega
def JB (v : Nat) (cs : Nat → Nat) (f : Nat → Int32) : Prop := ∀ x, x < 12 → ∀ y, y < 32 → bt (f x) y = decide (y < 12 ∧ x ≠ y ∧ cs (pai x y) = v)
theorem toggle_ok {X : ST} {kk p : Nat} {post : ST → Prop} (hp : p < 144) (hlt : p / 12 < p % 12) (h : ∀ f, (∀ x, x < 12 → ∀ y, y < 32 → bt (f x) y = (bt (X.2.2.1 kk x) y ^^ decide ((x = p / 12 ∧ y = p % 12) ∨ (x = p % 12 ∧ y = p / 12)))) → post (ks_sA X kk f)) : wp_Case_toggle X kk 12 (nI (kcode p)) post := by
  have v : ∀ k, k < 12 → vp_in (nI k) 12 := fun k hk => vp_in_nI hk (by decide)
  refine lesser_ok hp (greater_ok hp ⟨v _ (by omega), v _ (by omega), nm ⟨v _ (by omega), v _ (by omega), nm ?_⟩⟩)
  rw [sA_sA, gA_sA, nI_clamp (show p / 12 < 2 ^ 31 by omega), nI_clamp (show p % 12 < 2 ^ 31 by omega)]
  refine h _ (fun x hx y hy => ?_)
  by_cases e1 : x = p % 12
  · subst e1
    rw [pk_us, pk_un (show p % 12 ≠ p / 12 by omega), b_xor, b_bit (p / 12) (by omega) hy]
    congr 1
    apply decide_eq_decide.mpr
    omega
  · rw [pk_un e1]
    by_cases e2 : x = p / 12
    · subst e2
      rw [pk_us, b_xor, b_bit (p % 12) (by omega) hy]
      congr 1
      apply decide_eq_decide.mpr
      omega
    · rw [pk_un e2, decide_eq_false (by omega), Bool.xor_false]
theorem JB_tog {v p : Nat} {cs cs' : Nat → Nat} {f g : Nat → Int32} (h : JB v cs f) (hp : p < 144) (hlt : p / 12 < p % 12) (e : ∀ k, k ≠ p → (cs k = v ↔ cs' k = v)) (t : cs p = v ↔ ¬ cs' p = v) (hg : ∀ x, x < 12 → ∀ y, y < 32 → bt (g x) y = (bt (f x) y ^^ decide ((x = p / 12 ∧ y = p % 12) ∨ (x = p % 12 ∧ y = p / 12)))) : JB v cs' g := by
  intro x hx y hy
  rw [hg x hx y hy, h x hx y hy]
  by_cases y12 : y < 12
  · by_cases ne : x ≠ y
    · have q := pai_eq hx y12 ne hlt
      by_cases z : pai x y = p
      · rw [decide_eq_true (q.mp z), z]
        by_cases w : cs p = v
        · rw [decide_eq_true ⟨y12, ne, w⟩, decide_eq_false (fun u => t.mp w u.2.2)]; rfl
        · rw [decide_eq_false (fun u => w u.2.2), decide_eq_true ⟨y12, ne, Decidable.byContradiction (fun u => w (t.mpr u))⟩]; rfl
      · rw [decide_eq_false (fun u => z (q.mpr u)), Bool.xor_false]
        apply decide_eq_decide.mpr
        rw [e _ z]
    · rw [decide_eq_false (fun u => ne u.2.1), decide_eq_false (by omega), decide_eq_false (fun u => ne u.2.1)]; rfl
  · rw [decide_eq_false (fun u => y12 u.1), decide_eq_false (by omega), decide_eq_false (fun u => y12 u.1)]; rfl
/-- the way in the class's rows -/
def PSt (X : ST) : List (Nat × Bool) → Prop
  | [] => True
  | (p, b) :: r => (x_Case_split X r.length = nI (kcode p) ∧ x_Case_isSecond X r.length = (if b = true then 1 else 0)) ∧ PSt X r
theorem PSt_congr {X X' : ST} : ∀ {r : List (Nat × Bool)}, (∀ i, i < r.length → x_Case_split X' i = x_Case_split X i ∧ x_Case_isSecond X' i = x_Case_isSecond X i) → PSt X r → PSt X' r
  | [], _, _ => trivial
  | (p, b) :: r, e, h => by
    have q := e r.length (Nat.lt_succ_self _)
    exact ⟨⟨q.1.trans h.1.1, q.2.trans h.1.2⟩, PSt_congr (fun i hi => e i (Nat.lt_succ_of_lt hi)) h.2⟩
/-- the class at a CASE -/
def XA (M : ST) (K : Nat) (r : List (Nat × Bool)) (X : ST) : Prop := x_Case_depth X = nI r.length ∧ PSt X r ∧ OKP M K r ∧ JB 1 (cso r) (x_Case_joined X) ∧ JB 2 (cso r) (x_Case_parted X) ∧ x_Case_isOver X = 0
theorem XA.cx {M : ST} {K : Nat} {r : List (Nat × Bool)} {X : ST} (h : XA M K r X) : CX (cso r) X := by
  intro k hk hlt
  rw [h.2.2.2.1 _ (by omega) _ (by omega), h.2.2.2.2.1 _ (by omega) _ (by omega), pai_k hlt]
  constructor
  · apply decide_eq_decide.mpr
    omega
  · apply decide_eq_decide.mpr
    omega
abbrev FC : ST → ST → Prop := Fe [8, 9] [] [34, 35, 36, 37] []
theorem FC.fx {X X' : ST} (s : FC X X') : FX X X' := s.up (fun k hk => by simp only [List.mem_cons, List.not_mem_nil, or_false] at hk ⊢; omega) (fun k hk => absurd hk List.not_mem_nil) (fun k hk => by simp only [List.mem_cons, List.not_mem_nil, or_false] at hk ⊢; omega) (fun k hk => absurd hk List.not_mem_nil)
/-- the class after a LINE: over, or at the next CASE -/
def XO (M : ST) (K : Nat) (o : Option (List (Nat × Bool))) (X : ST) : Prop := (o = none ∧ x_Case_isOver X = 1) ∨ ∃ r, o = some r ∧ XA M K r X
theorem nat_len {r : List (Nat × Bool)} : nI (r.length + 1) - 1 = nI r.length := nI_pred _
theorem sec_val {b : Bool} : ((if b = true then (1 : Int32) else 0) = 0) ↔ b = false := by cases b <;> decide
theorem go51_ok {M : ST} {K : Nat} {r : List (Nat × Bool)} {X0 X : ST} {post : ST → Prop} (fc : FC X0 X) (h : XA M K r X) (hr : ∀ p r', r ≠ (p, true) :: r') (hp : ∀ X', FC X0 X' → XO M K (goP r) X' → post X') : wp_Case_goOn_51 post X := by
  obtain ⟨h1, h2, h3, h4, h5, h6⟩ := h
  unfold wp_Case_goOn_51
  rw [h1]
  rcases r with _ | ⟨⟨p, b⟩, r⟩
  · exact yes' rfl (nm (hp _ (fc.sI (by decide) _) (Or.inl ⟨rfl, rfl⟩)))
  · have l66 := OKP_66 h3
    have hlen : ((p, b) :: r).length = r.length + 1 := rfl
    have b0 : b = false := by
      rcases b with _ | _
      · rfl
      · exact absurd rfl (hr p r)
    subst b0
    rw [hlen, nat_len]
    have v : vp_in (nI r.length) 66 := vp_in_nI (by omega) (by decide)
    refine nay' (nI_ne0 (by omega) (by omega)) ⟨v, nm ?_⟩
    rw [show ∀ f, x_Case_depth (xs_Case_isSecond X f) = nI (r.length + 1) from fun f => h1, nat_len, nI_clamp (show r.length < 2 ^ 31 by omega), show ∀ f, x_Case_split (xs_Case_isSecond X f) r.length = nI (kcode p) from fun f => h2.1.1, nar1]
    refine ⟨v, toggle_ok h3.1.1 h3.1.2.1.1 (fun f hf => ?_)⟩
    rw [show ∀ g, x_Case_depth (ks_sA (xs_Case_isSecond X g) 34 f) = nI (r.length + 1) from fun g => h1, nat_len, nI_clamp (show r.length < 2 ^ 31 by omega), show ∀ g, x_Case_split (ks_sA (xs_Case_isSecond X g) 34 f) r.length = nI (kcode p) from fun g => h2.1.1]
    refine ⟨v, toggle_ok h3.1.1 h3.1.2.1.1 (fun g hg => hp _ (((fc.sA (by decide) _).sA (by decide) _).sA (by decide) _) (Or.inr ⟨_, goP_f p r, h1, ⟨⟨h2.1.1, ?_⟩, ?_⟩, h3, ?_, ?_, h6⟩))⟩
    · show upd (x_Case_isSecond X) r.length 1 r.length = 1
      rw [pk_us]
    · refine PSt_congr (X := X) (fun i hi => ⟨rfl, ?_⟩) h2.2
      show upd (x_Case_isSecond X) r.length 1 i = _
      rw [pk_un (by omega)]
    · refine JB_tog (cs' := cso ((p, true) :: r)) h4 h3.1.1 h3.1.2.1.1 (fun k hk => ?_) ?_ hf
      · rw [cso_n hk, cso_n hk]
      · rw [cso_f, cso_t]; omega
    · refine JB_tog (cs' := cso ((p, true) :: r)) h5 h3.1.1 h3.1.2.1.1 (fun k hk => ?_) ?_ hg
      · rw [cso_n hk, cso_n hk]
      · rw [cso_f, cso_t]; omega
theorem popSec {M : ST} {K p : Nat} {r : List (Nat × Bool)} {X : ST} {f : Nat → Int32} (h : XA M K ((p, true) :: r) X) (hf : ∀ x, x < 12 → ∀ y, y < 32 → bt (f x) y = (bt (x_Case_parted X x) y ^^ decide ((x = p / 12 ∧ y = p % 12) ∨ (x = p % 12 ∧ y = p / 12)))) : XA M K r (ks_sA (xs_Case_depth X (nI r.length)) 35 f) := by
  obtain ⟨h1, h2, h3, h4, h5, h6⟩ := h
  refine ⟨rfl, PSt_congr (X := X) (fun i hi => ⟨rfl, rfl⟩) h2.2, h3.2, ?_, ?_, h6⟩
  · intro x hx y hy
    show bt (x_Case_joined X x) y = _
    rw [h4 x hx y hy]
    apply decide_eq_decide.mpr
    by_cases z : pai x y = p
    · rw [z, cso_t, h3.1.2.2]; omega
    · rw [cso_n z]
  · refine JB_tog (cs' := cso r) h5 h3.1.1 h3.1.2.1.1 (fun k hk => by rw [cso_n hk]) ?_ hf
    rw [cso_t, h3.1.2.2]; omega
theorem goOn0_ok {M : ST} {K : Nat} {X0 : ST} {post : ST → Prop} : ∀ (r : List (Nat × Bool)) (X : ST), FC X0 X → XA M K r X → (∀ X', FC X0 X' → XO M K (goP r) X' → post X') → wp_Case_goOn_0 (fun X13 => wp_Case_goOn_51 post X13) post (r.length + 1) X
  | [], X, fc, h, hp => yes (by rw [h.1]; decide) (go51_ok fc h (fun p r' q => by cases q) hp)
  | (p, b) :: r, X, fc, h, hp => by
    have l66 := OKP_66 h.2.2.1
    have hlen : ((p, b) :: r).length = r.length + 1 := rfl
    have e1 : x_Case_depth X = nI (r.length + 1) := h.1
    have v : vp_in (nI r.length) 66 := vp_in_nI (by omega) (by decide)
    refine nay (by rw [e1]; exact nI_nle (by omega) (by omega)) ?_
    rw [e1, nat_len, nI_clamp (show r.length < 2 ^ 31 by omega), h.2.1.1.2]
    refine ⟨v, bh (fun c => go51_ok fc h (fun p' r' q => ?_) hp) (fun c => nm ⟨v, ?_⟩)⟩
    · have := sec_val.mp c
      subst this
      cases q
    · have bt : b = true := by
        rcases b with _ | _
        · exact absurd (sec_val.mpr rfl) c
        · rfl
      subst bt
      rw [show x_Case_split (xs_Case_depth X (nI r.length)) (x_Case_depth (xs_Case_depth X (nI r.length))).toNatClampNeg = nI (kcode p) from by
        show x_Case_split X (nI r.length).toNatClampNeg = _
        rw [nI_clamp (show r.length < 2 ^ 31 by omega)]; exact h.2.1.1.1]
      refine toggle_ok h.2.2.1.1.1 h.2.2.1.1.2.1.1 (fun f hf => goOn0_ok r _ ((fc.sI (by decide) _).sA (by decide) _) (popSec h hf) (fun X' a b => hp X' a ?_))
      rw [goP_t]; exact b
theorem goOn_ok {M : ST} {K : Nat} {r : List (Nat × Bool)} {X : ST} {post : ST → Prop} (h : XA M K r X) (hp : ∀ X', FC X X' → XO M K (goP r) X' → post X') : wp_Case_goOn X post := by
  rcases r with _ | ⟨⟨p, b⟩, r⟩
  · exact yes (by rw [h.1]; decide) (go51_ok (Fe.rf X) h (fun p r' q => by cases q) hp)
  · have l66 := OKP_66 h.2.2.1
    have hlen : ((p, b) :: r).length = r.length + 1 := rfl
    have e1 : x_Case_depth X = nI (r.length + 1) := h.1
    have v : vp_in (nI r.length) 66 := vp_in_nI (by omega) (by decide)
    refine nay (by rw [e1]; exact nI_nle (by omega) (by omega)) ?_
    rw [e1, nat_len, nI_clamp (show r.length < 2 ^ 31 by omega), h.2.1.1.2]
    refine ⟨v, bh (fun c => go51_ok (Fe.rf X) h (fun p' r' q => ?_) hp) (fun c => nm ⟨v, ?_⟩)⟩
    · have := sec_val.mp c
      subst this
      cases q
    · have bt : b = true := by
        rcases b with _ | _
        · exact absurd (sec_val.mpr rfl) c
        · rfl
      subst bt
      rw [show x_Case_split (xs_Case_depth X (nI r.length)) (x_Case_depth (xs_Case_depth X (nI r.length))).toNatClampNeg = nI (kcode p) from by
        show x_Case_split X (nI r.length).toNatClampNeg = _
        rw [nI_clamp (show r.length < 2 ^ 31 by omega)]; exact h.2.1.1.1]
      refine toggle_ok h.2.2.1.1.1 h.2.2.1.1.2.1.1 (fun f hf => ⟨_, goOn0_ok r _ (((Fe.rf X).sI (by decide) _).sA (by decide) _) (popSec h hf) (fun X' a b => hp X' a ?_)⟩)
      rw [goP_t]; exact b
theorem splitBy_ok {M : ST} {K p : Nat} {r : List (Nat × Bool)} {X : ST} {post : ST → Prop} (h : XA M K r X) (hp4 : p < 144) (lp : lpM M K p) (h0 : cso r p = 0) (hp : ∀ X', FC X X' → XA M K ((p, false) :: r) X' → post X') : wp_Case_splitBy X (nI (p / 12)) (nI (p % 12)) post := by
  obtain ⟨h1, h2, h3, h4, h5, h6⟩ := h
  have ok : OKP M K ((p, false) :: r) := ⟨⟨hp4, lp, h0⟩, h3⟩
  have l66 := OKP_66 ok
  have hlen : ((p, false) :: r).length = r.length + 1 := rfl
  have v : vp_in (nI r.length) 66 := vp_in_nI (by omega) (by decide)
  unfold wp_Case_splitBy wp_LR_pairOf
  rw [h1, ix16]
  refine yes (nI_lt (b := 66) (by omega) (by decide)) ⟨v, nm ?_⟩
  rw [show ∀ f, x_Case_depth (xs_Case_split X f) = nI r.length from fun f => h1, nI_clamp (show r.length < 2 ^ 31 by omega)]
  refine ⟨v, nm ?_⟩
  rw [show ∀ f g, x_Case_depth (xs_Case_isSecond (xs_Case_split X f) g) = nI r.length from fun f g => h1, nI_clamp (show r.length < 2 ^ 31 by omega), nar0]
  refine ⟨v, ?_⟩
  have es : ∀ g, x_Case_split (xs_Case_isSecond (xs_Case_split X (upd (x_Case_split X) r.length (nI (16 * (p / 12) + p % 12)))) g) r.length = nI (kcode p) := fun g => pk_us
  rw [es]
  refine toggle_ok hp4 lp.1 (fun f hf => nm ?_)
  rw [show ∀ a b, x_Case_depth (ks_sA (xs_Case_isSecond (xs_Case_split X a) b) 34 f) = nI r.length from fun a b => h1, nI_1]
  refine hp _ (((((Fe.rf X).sA (by decide) _).sA (by decide) _).sA (by decide) _).sI (by decide) _) ⟨rfl, ⟨⟨pk_us, pk_us⟩, PSt_congr (X := X) (fun i hi => ⟨pk_un (by omega), pk_un (by omega)⟩) h2⟩, ok, ?_, ?_, h6⟩
  · refine JB_tog (cs' := cso ((p, false) :: r)) h4 hp4 lp.1 (fun k hk => by rw [cso_n hk]) ?_ hf
    rw [cso_f, h0]; omega
  · intro x hx y hy
    show bt (x_Case_parted X x) y = _
    rw [h5 x hx y hy]
    apply decide_eq_decide.mpr
    by_cases z : pai x y = p
    · rw [z, cso_f, h0]; omega
    · rw [cso_n z]
