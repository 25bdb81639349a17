/-! PURE: frames; rows as numbers -/
def Fe (is ls as bs : List Nat) (X X' : ST) : Prop := (∀ k, k ∉ is → X'.1 k = X.1 k) ∧ (∀ k, k ∉ ls → X'.2.1 k = X.2.1 k) ∧ (∀ k, k ∉ as → X'.2.2.1 k = X.2.2.1 k) ∧ (∀ k, k ∉ bs → X'.2.2.2 k = X.2.2.2 k)
theorem Fe.rf {is ls as bs : List Nat} (X : ST) : Fe is ls as bs X X := ⟨fun _ _ => rfl, fun _ _ => rfl, fun _ _ => rfl, fun _ _ => rfl⟩
theorem Fe.tr {is ls as bs : List Nat} {X Y Z : ST} (h : Fe is ls as bs X Y) (g : Fe is ls as bs Y Z) : Fe is ls as bs X Z := ⟨fun k hk => (g.1 k hk).trans (h.1 k hk), fun k hk => (g.2.1 k hk).trans (h.2.1 k hk), fun k hk => (g.2.2.1 k hk).trans (h.2.2.1 k hk), fun k hk => (g.2.2.2 k hk).trans (h.2.2.2 k hk)⟩
theorem Fe.up {is ls as bs is' ls' as' bs' : List Nat} {X Y : ST} (h : Fe is ls as bs X Y) (h1 : ∀ k, k ∈ is → k ∈ is') (h2 : ∀ k, k ∈ ls → k ∈ ls') (h3 : ∀ k, k ∈ as → k ∈ as') (h4 : ∀ k, k ∈ bs → k ∈ bs') : Fe is' ls' as' bs' X Y := ⟨fun k hk => h.1 k (fun q => hk (h1 k q)), fun k hk => h.2.1 k (fun q => hk (h2 k q)), fun k hk => h.2.2.1 k (fun q => hk (h3 k q)), fun k hk => h.2.2.2 k (fun q => hk (h4 k q))⟩
theorem Fe.sA {is ls as bs : List Nat} {X Y : ST} (h : Fe is ls as bs X Y) {k : Nat} (hk : k ∈ as) (f : Nat → Int32) : Fe is ls as bs X (ks_sA Y k f) := ⟨h.1, h.2.1, fun j hj => (ks_up_ne _ _ (fun e => hj (by rw [e]; exact hk))).trans (h.2.2.1 j hj), h.2.2.2⟩
theorem Fe.sB {is ls as bs : List Nat} {X Y : ST} (h : Fe is ls as bs X Y) {k : Nat} (hk : k ∈ bs) (f : Nat → Int64) : Fe is ls as bs X (ks_sB Y k f) := ⟨h.1, h.2.1, h.2.2.1, fun j hj => (ks_up_ne _ _ (fun e => hj (by rw [e]; exact hk))).trans (h.2.2.2 j hj)⟩
theorem Fe.sI {is ls as bs : List Nat} {X Y : ST} (h : Fe is ls as bs X Y) {k : Nat} (hk : k ∈ is) (f : Int32) : Fe is ls as bs X (ks_sI Y k f) := ⟨fun j hj => (ks_up_ne _ _ (fun e => hj (by rw [e]; exact hk))).trans (h.1 j hj), h.2.1, h.2.2.1, h.2.2.2⟩
theorem Fe.sJ {is ls as bs : List Nat} {X Y : ST} (h : Fe is ls as bs X Y) {k : Nat} (hk : k ∈ ls) (f : Int64) : Fe is ls as bs X (ks_sJ Y k f) := ⟨h.1, fun j hj => (ks_up_ne _ _ (fun e => hj (by rw [e]; exact hk))).trans (h.2.1 j hj), h.2.2.1, h.2.2.2⟩
/-- the class but for what it reckons with -/
abbrev FX : ST → ST → Prop := Fe [5, 6, 7, 8, 9, 10, 11, 12, 14] [1] [28, 29, 30, 31, 32, 33, 34, 35, 36, 37, 39, 40, 44, 45, 46] [38]
/-- the model but for what it reckons with -/
abbrev FM : ST → ST → Prop := Fe [19, 20, 21] [] [64, 65, 66, 67, 68, 69, 70, 71, 72, 73, 74, 75] []
theorem big_as {k : Nat} (h : 100 ≤ k) : k ∉ [28, 29, 30, 31, 32, 33, 34, 35, 36, 37, 39, 40, 44, 45, 46] := by
  intro q
  simp only [List.mem_cons, List.not_mem_nil, or_false] at q
  omega
theorem big_bs {k : Nat} (h : 100 ≤ k) : k ∉ [38] := by
  intro q
  simp only [List.mem_cons, List.not_mem_nil, or_false] at q
  omega
theorem FX.gaps {X X' : ST} (s : FX X X') : x_gaps X' = x_gaps X := funext fun i => s.2.2.1 _ (big_as (by omega))
theorem FX.ways {X X' : ST} (s : FX X X') : x_ways X' = x_ways X := funext fun i => s.2.2.1 _ (big_as (by omega))
theorem FX.lamp {n K : Nat} {X X' M : ST} (s : FX X X') (h : LampK n K X M) : LampK n K X' M := by
  unfold LampK at h ⊢
  rw [show x_Lamps_count X' = _ from s.1 2 (by decide), show x_Lamps_crossings X' = _ from s.2.2.1 20 (by decide), show x_Lamps_kinds X' = _ from s.2.2.1 21 (by decide), show x_Lamps_prices X' = _ from s.2.2.1 23 (by decide), show x_Lamps_others X' = _ from s.2.2.1 22 (by decide), show x_Lamps_live X' = _ from s.1 1 (by decide)]
  exact h
theorem FX.told {K T : Nat} {r : Nat → Nat} {X X' M : ST} (s : FX X X') (h : TK K T r X M) : TK K T r X' M := by
  unfold TK at h ⊢
  rw [show x_Told_count X' = x_Told_count X from s.1 4 (by decide), show x_Told_order X' = x_Told_order X from s.2.2.1 27 (by decide)]
  exact h
theorem FX.inv {n : Nat} {d : Nat → Nat → Nat} {X X' M : ST} (s : FX X X') (h : InvD n d X M) : InvD n d X' M := by
  obtain ⟨h1, h2, h3, h4, h5, h6, h7⟩ := h
  exact ⟨h1.fr (s.1 0 (by decide)) (s.2.2.1 15 (by decide)) (s.2.2.1 16 (by decide)) (s.2.2.1 17 (by decide)) (s.2.2.1 18 (by decide)) rfl rfl rfl rfl rfl,
    h2.fr (s.2.2.1 13 (by decide)) (s.2.2.1 14 (by decide)) (funext fun i => s.2.2.2 _ (big_bs (by omega))) rfl rfl rfl,
    h3.fr (s.2.1 0 (by decide)) s.ways rfl rfl rfl rfl rfl rfl,
    h4.fr (s.1 2 (by decide)) (s.2.2.1 20 (by decide)) (s.2.2.1 21 (by decide)) (s.2.2.1 23 (by decide)) (s.2.2.1 22 (by decide)) (s.1 1 (by decide)) rfl rfl rfl rfl rfl rfl,
    h5.fr (s.1 3 (by decide)) s.gaps (s.2.2.1 24 (by decide)) (s.2.2.1 25 (by decide)) rfl rfl rfl rfl rfl,
    h6.fr (s.1 4 (by decide)) (s.2.2.1 27 (by decide)) rfl rfl rfl rfl,
    h7.fr (s.1 13 (by decide)) (s.2.2.1 41 (by decide)) (s.2.2.1 42 (by decide)) (s.2.2.1 43 (by decide)) rfl rfl rfl rfl⟩
theorem FM.ml {d : Nat → Nat → Nat} {K : Nat} {M M' : ST} (s : FM M M') (h : ML d K M) : ML d K M' := by
  unfold ML Edg at h ⊢
  rw [show m_lamps M' = _ from s.1 16 (by decide), show m_crossing M' = _ from s.2.2.1 55 (by decide), show m_kind M' = _ from s.2.2.1 56 (by decide), show m_other M' = _ from s.2.2.1 57 (by decide), show m_isOut M' = _ from s.2.2.1 58 (by decide), show m_ways M' = _ from s.2.2.1 54 (by decide), show m_lanes M' = _ from s.1 15 (by decide), show m_isOpen M' = _ from s.2.2.1 50 (by decide), show m_length M' = _ from s.2.2.1 49 (by decide), show m_from M' = _ from s.2.2.1 47 (by decide), show m_to M' = _ from s.2.2.1 48 (by decide)]
  exact h
theorem FM.w {M M' : ST} (s : FM M M') (d : Nat → Nat → Nat) : wL M' d = wL M d := by
  unfold wL
  rw [show m_crossing M' = _ from s.2.2.1 55 (by decide)]
theorem FM.tw {M M' : ST} (s : FM M M') (d : Nat → Nat → Nat) : twI M' d = twI M d := by
  unfold twI
  rw [s.w d, show m_kind M' = _ from s.2.2.1 56 (by decide), show m_other M' = _ from s.2.2.1 57 (by decide)]
theorem FM.out {M M' : ST} (s : FM M M') : m_isOut M' = m_isOut M := s.2.2.1 58 (by decide)
theorem FM.lvv {M M' : ST} (s : FM M M') : lv M' = lv M := by
  unfold lv
  rw [s.out]
theorem FM.pr {M M' : ST} {K n : Nat} {r : Nat → Nat} (s : FM M M') (h : PR M K n r) : PR M' K n r := by
  unfold PR at h ⊢
  rw [s.lvv, s.out]
  exact h
theorem FM.kt {M M' : ST} (s : FM M M') {d : Nat → Nat → Nat} {K n : Nat} {r : Nat → Nat} : KT M' d K n r ↔ KT M d K n r := by
  unfold KT MT
  rw [s.tw d]
theorem FM.lamp {n K : Nat} {X M M' : ST} (s : FM M M') (h : LampK n K X M) : LampK n K X M' := by
  unfold LampK at h ⊢
  rw [show m_lamps M' = _ from s.1 16 (by decide), show m_crossing M' = _ from s.2.2.1 55 (by decide), show m_kind M' = _ from s.2.2.1 56 (by decide), show m_other M' = _ from s.2.2.1 57 (by decide), show m_isOut M' = _ from s.2.2.1 58 (by decide), show m_price M' = _ from s.2.2.1 59 (by decide)]
  exact h
theorem FM.told {K T : Nat} {r : Nat → Nat} {X M M' : ST} (s : FM M M') (h : TK K T r X M) : TK K T r X M' := by
  unfold TK at h ⊢
  rw [show m_told M' = _ from s.1 17 (by decide), show m_round M' = _ from s.2.2.1 60 (by decide), s.out]
  exact h
theorem FM.inv {n : Nat} {d : Nat → Nat → Nat} {X M M' : ST} (s : FM M M') (h : InvD n d X M) : InvD n d X M' := by
  obtain ⟨h1, h2, h3, h4, h5, h6, h7⟩ := h
  exact ⟨h1.fr rfl rfl rfl rfl rfl (s.1 15 (by decide)) (s.2.2.1 47 (by decide)) (s.2.2.1 48 (by decide)) (s.2.2.1 49 (by decide)) (s.2.2.1 50 (by decide)),
    h2.fr rfl rfl rfl (s.2.2.1 51 (by decide)) (s.2.2.1 52 (by decide)) (s.2.2.2 53 (by decide)),
    h3.fr rfl rfl (s.1 15 (by decide)) (s.2.2.1 47 (by decide)) (s.2.2.1 48 (by decide)) (s.2.2.1 49 (by decide)) (s.2.2.1 50 (by decide)) (s.2.2.1 54 (by decide)),
    h4.fr rfl rfl rfl rfl rfl rfl (s.1 16 (by decide)) (s.2.2.1 55 (by decide)) (s.2.2.1 56 (by decide)) (s.2.2.1 59 (by decide)) (s.2.2.1 57 (by decide)) (s.2.2.1 58 (by decide)),
    h5.fr rfl rfl rfl rfl (s.1 16 (by decide)) (s.2.2.1 55 (by decide)) (s.2.2.1 56 (by decide)) (s.2.2.1 57 (by decide)) (s.2.2.1 58 (by decide)),
    h6.fr rfl rfl (s.1 17 (by decide)) (s.2.2.1 60 (by decide)) (s.1 16 (by decide)) (s.2.2.1 58 (by decide)),
    h7.fr rfl rfl rfl rfl (s.1 18 (by decide)) (s.2.2.1 61 (by decide)) (s.2.2.1 62 (by decide)) (s.2.2.1 63 (by decide))⟩
/-- a row as a number -/
def vl (r : Nat → Nat) : Nat → Nat
  | 0 => 0
  | k + 1 => 16 * vl r k + r k
theorem vl_s (r : Nat → Nat) (k : Nat) : vl r (k + 1) = 16 * vl r k + r k := rfl
theorem vl_congr {r s : Nat → Nat} : ∀ k, (∀ i, i < k → r i = s i) → vl r k = vl s k
  | 0, _ => rfl
  | k + 1, h => by rw [vl_s, vl_s, vl_congr k (fun i hi => h i (by omega)), h k (by omega)]
theorem vl_inj {r s : Nat → Nat} : ∀ k, (∀ i, i < k → r i < 16) → (∀ i, i < k → s i < 16) → vl r k = vl s k → ∀ i, i < k → r i = s i
  | 0, _, _, _, i, hi => absurd hi (by omega)
  | k + 1, h1, h2, e, i, hi => by
    rw [vl_s, vl_s] at e
    have a := h1 k (by omega)
    have b := h2 k (by omega)
    by_cases q : i = k
    · subst q; omega
    · exact vl_inj k (fun i hi => h1 i (by omega)) (fun i hi => h2 i (by omega)) (by omega) i (by omega)
theorem vl_up {r s : Nat → Nat} {k : Nat} (h : vl r k < vl s k) : ∀ m, (∀ i, i < k + m → r i < 16) → vl r (k + m) < vl s (k + m)
  | 0, _ => h
  | m + 1, h1 => by
    have := vl_up h m (fun i hi => h1 i (by omega))
    have := h1 (k + m) (by omega)
    rw [show k + (m + 1) = k + m + 1 by omega, vl_s, vl_s]
    omega
theorem vl_upn {r s : Nat → Nat} {k n : Nat} (h : vl r k < vl s k) (hk : k ≤ n) (h1 : ∀ i, i < n → r i < 16) : vl r n < vl s n := by
  obtain ⟨m, rfl⟩ : ∃ m, n = k + m := ⟨n - k, by omega⟩
  exact vl_up h m h1
theorem vl_fd {r s : Nat → Nat} : ∀ k, (∀ i, i < k → r i < 16) → (∀ i, i < k → s i < 16) → vl r k < vl s k → ∃ p, p < k ∧ (∀ i, i < p → r i = s i) ∧ r p < s p
  | 0, _, _, e => absurd e (Nat.lt_irrefl _)
  | k + 1, h1, h2, e => by
    rw [vl_s, vl_s] at e
    have a := h1 k (by omega)
    have b := h2 k (by omega)
    rcases Nat.lt_or_ge (vl r k) (vl s k) with q | q
    · obtain ⟨p, p1, p2, p3⟩ := vl_fd k (fun i hi => h1 i (by omega)) (fun i hi => h2 i (by omega)) q
      exact ⟨p, by omega, p2, p3⟩
    · exact ⟨k, by omega, vl_inj k (fun i hi => h1 i (by omega)) (fun i hi => h2 i (by omega)) (by omega), by omega⟩
theorem vl_of {r s : Nat → Nat} {n p : Nat} (hp : p < n) (h1 : ∀ i, i < n → r i < 16) (e : ∀ i, i < p → r i = s i) (l : r p < s p) : vl r n < vl s n := by
  refine vl_upn (k := p + 1) ?_ (by omega) h1
  rw [vl_s, vl_s, vl_congr p e]
  omega
theorem vl_max {r : Nat → Nat} : ∀ k, (∀ i, i < k → r i < 16) → vl r k < 16 ^ k
  | 0, _ => by
    show 0 < 16 ^ 0
    decide
  | k + 1, h => by
    have := vl_max k (fun i hi => h i (by omega))
    have := h k (by omega)
    rw [vl_s, Nat.pow_succ]
    omega
/-- the best row of those seen: none yet, or the first of the shortest -/
def BS (G : (Nat → Nat) → Prop) (c : (Nat → Nat) → Nat) (n : Nat) (S : (Nat → Nat) → Prop) (F B : Nat) (b : Nat → Int32) : Prop := (B = F ∧ ∀ s, S s → ¬ G s) ∨ ∃ r, S r ∧ G r ∧ B = c r ∧ (∀ i, i < n → b i = nI (r i)) ∧ ∀ s, S s → G s → c r < c s ∨ (c r = c s ∧ vl r n ≤ vl s n)
theorem BS.ext {G : (Nat → Nat) → Prop} {c : (Nat → Nat) → Nat} {n F B : Nat} {S S' : (Nat → Nat) → Prop} {b : Nat → Int32} (h : BS G c n S F B b) (sub : ∀ s, S s → S' s) (new : ∀ s, S' s → ¬ S s → G s → B ≤ c s ∧ c s < F ∧ ∀ r, S r → vl r n ≤ vl s n) : BS G c n S' F B b := by
  rcases h with ⟨h1, h2⟩ | ⟨r, h1, h2, h3, h4, h5⟩
  · refine Or.inl ⟨h1, fun s hs g => ?_⟩
    by_cases q : S s
    · exact h2 s q g
    · have := new s hs q g
      omega
  · refine Or.inr ⟨r, sub r h1, h2, h3, h4, fun s hs g => ?_⟩
    by_cases q : S s
    · exact h5 s q g
    · have z := new s hs q g
      have y := z.2.2 r h1
      omega
theorem BS.same {G : (Nat → Nat) → Prop} {c : (Nat → Nat) → Nat} {n F B : Nat} {S S' : (Nat → Nat) → Prop} {b : Nat → Int32} (h : BS G c n S F B b) (e : ∀ s, S s ↔ S' s) : BS G c n S' F B b := h.ext (fun s q => (e s).mp q) (fun s q1 q2 => absurd ((e s).mpr q1) q2)
theorem BS.le {G : (Nat → Nat) → Prop} {c : (Nat → Nat) → Nat} {n F B : Nat} {S : (Nat → Nat) → Prop} {b : Nat → Int32} (h : BS G c n S F B b) {s : Nat → Nat} (hs : S s) (g : G s) : B ≤ c s := by
  rcases h with ⟨h1, h2⟩ | ⟨r, h1, h2, h3, h4, h5⟩
  · exact absurd g (h2 s hs)
  · have := h5 s hs g
    omega
theorem BS.new {G : (Nat → Nat) → Prop} {c : (Nat → Nat) → Nat} {n F B : Nat} {S S' : (Nat → Nat) → Prop} {b b' : Nat → Int32} {p : Nat → Nat} (h : BS G c n S F B b) (hp : S' p) (hg : G p) (hl : c p < B) (hb : ∀ i, i < n → b' i = nI (p i)) (hs : ∀ s, S' s → S s ∨ (c s = c p ∧ vl s n = vl p n)) : BS G c n S' F (c p) b' := by
  refine Or.inr ⟨p, hp, hg, rfl, hb, fun s q g => ?_⟩
  rcases hs s q with z | z
  · have := h.le z g
    omega
  · omega
