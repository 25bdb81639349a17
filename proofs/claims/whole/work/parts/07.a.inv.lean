/-! PURE: states, numbers, what ties the class to the model -/
theorem up_up {α : Type} (f : Nat → α) (k : Nat) (v w : α) : ks_up (ks_up f k v) k w = ks_up f k w := funext fun j => by
  by_cases h : j = k <;> simp [ks_up, h]
theorem sA_sA (X : ST) (k : Nat) (f g : Nat → Int32) : ks_sA (ks_sA X k f) k g = ks_sA X k g := by
  show (X.1, X.2.1, ks_up (ks_up X.2.2.1 k f) k g, X.2.2.2) = _
  rw [up_up]
theorem sB_sB (X : ST) (k : Nat) (f g : Nat → Int64) : ks_sB (ks_sB X k f) k g = ks_sB X k g := by
  show (X.1, X.2.1, X.2.2.1, ks_up (ks_up X.2.2.2 k f) k g) = _
  rw [up_up]
theorem sI_sI (X : ST) (k : Nat) (f g : Int32) : ks_sI (ks_sI X k f) k g = ks_sI X k g := by
  show (ks_up (ks_up X.1 k f) k g, X.2) = _
  rw [up_up]
theorem gA_sA (X : ST) (k : Nat) (f : Nat → Int32) : (ks_sA X k f).2.2.1 k = f := ks_up_eq _ _ _
theorem gB_sB (X : ST) (k : Nat) (f : Nat → Int64) : (ks_sB X k f).2.2.2 k = f := ks_up_eq _ _ _
theorem ways_sA {k : Nat} (hk : k < 100) (X : ST) (f : Nat → Int32) : x_ways (ks_sA X k f) = x_ways X := funext fun i => ks_up_ne _ _ (by omega)
theorem gaps_sA {k : Nat} (hk : k < 100) (X : ST) (f : Nat → Int32) : x_gaps (ks_sA X k f) = x_gaps X := funext fun i => ks_up_ne _ _ (by omega)
theorem cells_sB {k : Nat} (hk : k < 100) (X : ST) (f : Nat → Int64) : x_cells (ks_sB X k f) = x_cells X := funext fun i => ks_up_ne _ _ (by omega)
/-- bit i of a number -/
def bt (x : Int32) (i : Nat) : Bool := x.toBitVec.getLsbD i
/-- a LANE between two CROSSINGS that is OPEN, as the model has it -/
def Edg (M : ST) (u v s : Nat) : Prop := (u < 40 ∧ v < 40 ∧ 1 ≤ s ∧ s ≤ 1000) ∧ ∃ i, i < (m_lanes M).toNatClampNeg ∧ ¬ m_isOpen M i = 0 ∧ m_length M i = nI s ∧ ((m_from M i = nI u ∧ m_to M i = nI v) ∨ (m_from M i = nI v ∧ m_to M i = nI u))
/-- a WALK of k LANES -/
def Wlk (E : Nat → Nat → Nat → Prop) : Nat → Nat → Nat → Nat → Prop
  | 0, a, b, n => a = b ∧ n = 0
  | k + 1, a, b, n => ∃ c s r, E a c s ∧ n = s + r ∧ Wlk E k c b r
def FARN : Nat := 1000000000
/-- d is the WAY, FARN where there is none -/
def IsD (E : Nat → Nat → Nat → Prop) (d : Nat → Nat → Nat) : Prop := (∀ a, a < 40 → d a a = 0) ∧ (∀ a b c s, a < 40 → E b c s → d a c ≤ d a b + s) ∧ ∀ a b, a < 40 → b < 40 → d a b ≤ FARN ∧ (d a b = FARN ∨ ∃ k, Wlk E k a b (d a b))
def cv (v : Nat) : Nat := if v = FARN then 1000000 else v
/-- the nearest of the first j LAMPS but l -/
def nrF (w : Nat → Nat) (l : Nat) : Nat → Option Nat
  | 0 => none
  | j + 1 => match nrF w l j with
    | none => if j ≠ l ∧ w j ≠ FARN then some j else none
    | some b => if j ≠ l ∧ w j ≠ FARN ∧ w j < w b then some j else some b
/-- the WAY of two LAMPS -/
def wL (M : ST) (d : Nat → Nat → Nat) (i j : Nat) : Nat := d (m_crossing M i).toNatClampNeg (m_crossing M j).toNatClampNeg
def twI (M : ST) (d : Nat → Nat → Nat) (K l : Nat) : Int32 := if m_kind M l = 1 then m_other M l else if m_kind M l = 2 then (match nrF (wL M d l) l K with | none => -1 | some j => nI j) else -1
def ILane (X M : ST) : Prop := ∃ L, L ≤ 100 ∧ x_Town_count X = nI L ∧ m_lanes M = nI L ∧ ∀ i, i < L → (x_Town_from X i = m_from M i ∧ x_Town_to X i = m_to M i ∧ x_Town_size X i = m_length M i ∧ x_Town_isOpen X i = m_isOpen M i) ∧ ∃ a b s, m_from M i = nI a ∧ m_to M i = nI b ∧ m_length M i = nI s ∧ a < 40 ∧ b < 40 ∧ a ≠ b ∧ 1 ≤ s ∧ s ≤ 1000 ∧ bz (m_isOpen M i)
def IRow (X M : ST) : Prop := ∀ r, r < 4 → x_Rows_kinds X r = m_rowKind M r ∧ x_Rows_sizes X r = m_rowSize M r ∧ (m_rowSize M r = -1 ∨ ∃ z, z ≤ 50 ∧ m_rowSize M r = nI z ∧ ∀ i, i < z → x_cells X r i = m_cell M (50 * r + i))
def IWay (d : Nat → Nat → Nat) (X M : ST) : Prop := IsD (Edg M) d ∧ (∀ a b, a < 40 → b < 40 → m_ways M (40 * a + b) = nI (d a b)) ∧ ∀ a, a < 40 → (x_Town_reckoned X).toBitVec.getLsbD a = true → ∀ b, b < 40 → x_ways X a b = nI (cv (d a b))
def ILamp (n : Nat) (X M : ST) : Prop := ∃ K, K ≤ 12 ∧ x_Lamps_count X = nI K ∧ m_lamps M = nI K ∧ (∀ l, l < K → x_Lamps_crossings X l = m_crossing M l ∧ x_Lamps_kinds X l = m_kind M l ∧ x_Lamps_prices X l = m_price M l ∧ (∃ c, c < 40 ∧ m_crossing M l = nI c) ∧ (∃ k, k ≤ 4 ∧ m_kind M l = nI k) ∧ (m_kind M l = 1 → x_Lamps_others X l = m_other M l ∧ ∃ o, o < K ∧ m_other M l = nI o ∧ o ≠ l) ∧ (-(100000 + 1000 * (n : Int)) ≤ (m_price M l).toInt ∧ (m_price M l).toInt ≤ 100000 + 1000 * (n : Int)) ∧ bz (m_isOut M l)) ∧ (∀ l, K ≤ l → l < 12 → x_Lamps_prices X l = 0) ∧ ∀ l, l < 32 → bt (x_Lamps_live X) l = decide (l < K ∧ m_isOut M l = 0)
def ISurv (d : Nat → Nat → Nat) (X M : ST) : Prop := bz (x_Lamps_surveyed X) ∧ (¬ x_Lamps_surveyed X = 0 → ∀ K, m_lamps M = nI K → K ≤ 12 → ∀ i, i < K → (∀ j, j < K → x_gaps X i j = nI (cv (wL M d i j))) ∧ x_Lamps_twins X i = twI M d K i ∧ ∀ j, j < 32 → bt (x_Lamps_needs X i) j = decide (j < K ∧ m_isOut M i = 0 ∧ m_isOut M j = 0 ∧ (twI M d K i = nI j ∨ twI M d K j = nI i)))
def ITold (X M : ST) : Prop := ∃ T, T ≤ 12 ∧ x_Told_count X = nI T ∧ m_told M = nI T ∧ (∀ i, i < T → x_Told_order X i = m_round M i ∧ ∃ o, nI o = m_round M i ∧ (∃ K, K ≤ 12 ∧ m_lamps M = nI K ∧ o < K) ∧ m_isOut M o = 0) ∧ ∀ i j, i < T → j < T → m_round M i = m_round M j → i = j
def IProof (X M : ST) : Prop := ∃ P, P ≤ 400 ∧ x_proof_count X = nI P ∧ m_lines M = nI P ∧ ∀ i, i < P → x_proof_ops X i = m_op M i ∧ x_proof_as X i = m_left M i ∧ x_proof_bs X i = m_right M i ∧ ∃ o, 1 ≤ o ∧ o ≤ 6 ∧ m_op M i = nI o
def InvD (n : Nat) (d : Nat → Nat → Nat) (X M : ST) : Prop := ILane X M ∧ IRow X M ∧ IWay d X M ∧ ILamp n X M ∧ ISurv d X M ∧ ITold X M ∧ IProof X M
def Inv (n : Nat) (X M : ST) : Prop := ∃ d, InvD n d X M
theorem ILane.fr {X M X' M' : ST} (h : ILane X M) (e0 : x_Town_count X' = x_Town_count X) (e1 : x_Town_from X' = x_Town_from X) (e2 : x_Town_to X' = x_Town_to X) (e3 : x_Town_size X' = x_Town_size X) (e4 : x_Town_isOpen X' = x_Town_isOpen X) (f0 : m_lanes M' = m_lanes M) (f1 : m_from M' = m_from M) (f2 : m_to M' = m_to M) (f3 : m_length M' = m_length M) (f4 : m_isOpen M' = m_isOpen M) : ILane X' M' := by
  unfold ILane at h ⊢
  simp only [e0, e1, e2, e3, e4, f0, f1, f2, f3, f4]
  exact h
theorem IRow.fr {X M X' M' : ST} (h : IRow X M) (e0 : x_Rows_kinds X' = x_Rows_kinds X) (e1 : x_Rows_sizes X' = x_Rows_sizes X) (e2 : x_cells X' = x_cells X) (f0 : m_rowKind M' = m_rowKind M) (f1 : m_rowSize M' = m_rowSize M) (f2 : m_cell M' = m_cell M) : IRow X' M' := by
  unfold IRow at h ⊢
  simp only [e0, e1, e2, f0, f1, f2]
  exact h
theorem ITold.fr {X M X' M' : ST} (h : ITold X M) (e0 : x_Told_count X' = x_Told_count X) (e1 : x_Told_order X' = x_Told_order X) (f0 : m_told M' = m_told M) (f1 : m_round M' = m_round M) (f2 : m_lamps M' = m_lamps M) (f3 : m_isOut M' = m_isOut M) : ITold X' M' := by
  unfold ITold at h ⊢
  simp only [e0, e1, f0, f1, f2, f3]
  exact h
theorem IProof.fr {X M X' M' : ST} (h : IProof X M) (e0 : x_proof_count X' = x_proof_count X) (e1 : x_proof_ops X' = x_proof_ops X) (e2 : x_proof_as X' = x_proof_as X) (e3 : x_proof_bs X' = x_proof_bs X) (f0 : m_lines M' = m_lines M) (f1 : m_op M' = m_op M) (f2 : m_left M' = m_left M) (f3 : m_right M' = m_right M) : IProof X' M' := by
  unfold IProof at h ⊢
  simp only [e0, e1, e2, e3, f0, f1, f2, f3]
  exact h
theorem ILamp.fr {n : Nat} {X M X' M' : ST} (h : ILamp n X M) (e0 : x_Lamps_count X' = x_Lamps_count X) (e1 : x_Lamps_crossings X' = x_Lamps_crossings X) (e2 : x_Lamps_kinds X' = x_Lamps_kinds X) (e3 : x_Lamps_prices X' = x_Lamps_prices X) (e4 : x_Lamps_others X' = x_Lamps_others X) (e5 : x_Lamps_live X' = x_Lamps_live X) (f0 : m_lamps M' = m_lamps M) (f1 : m_crossing M' = m_crossing M) (f2 : m_kind M' = m_kind M) (f3 : m_price M' = m_price M) (f4 : m_other M' = m_other M) (f5 : m_isOut M' = m_isOut M) : ILamp n X' M' := by
  unfold ILamp at h ⊢
  simp only [e0, e1, e2, e3, e4, e5, f0, f1, f2, f3, f4, f5]
  exact h
theorem IWay.fr {d : Nat → Nat → Nat} {X M X' M' : ST} (h : IWay d X M) (e0 : x_Town_reckoned X' = x_Town_reckoned X) (e1 : x_ways X' = x_ways X) (f0 : m_lanes M' = m_lanes M) (f1 : m_from M' = m_from M) (f2 : m_to M' = m_to M) (f3 : m_length M' = m_length M) (f4 : m_isOpen M' = m_isOpen M) (f5 : m_ways M' = m_ways M) : IWay d X' M' := by
  unfold IWay Edg at h ⊢
  simp only [e0, e1, f0, f1, f2, f3, f4, f5]
  exact h
theorem ISurv.fr {d : Nat → Nat → Nat} {X M X' M' : ST} (h : ISurv d X M) (e0 : x_Lamps_surveyed X' = x_Lamps_surveyed X) (e1 : x_gaps X' = x_gaps X) (e2 : x_Lamps_twins X' = x_Lamps_twins X) (e3 : x_Lamps_needs X' = x_Lamps_needs X) (f0 : m_lamps M' = m_lamps M) (f1 : m_crossing M' = m_crossing M) (f2 : m_kind M' = m_kind M) (f3 : m_other M' = m_other M) (f4 : m_isOut M' = m_isOut M) : ISurv d X' M' := by
  unfold ISurv twI wL at h ⊢
  simp only [e0, e1, e2, e3, f0, f1, f2, f3, f4]
  exact h
theorem ILamp.up {n : Nat} {X M : ST} (h : ILamp n X M) : ILamp (n + 1) X M := by
  obtain ⟨K, h1, h2, h3, h4, h5, h6⟩ := h
  refine ⟨K, h1, h2, h3, fun l hl => ?_, h5, h6⟩
  obtain ⟨a1, a2, a3, a4, a5, a6, a7, a8⟩ := h4 l hl
  exact ⟨a1, a2, a3, a4, a5, a6, ⟨by omega, by omega⟩, a8⟩
theorem Inv.up {n : Nat} {X M : ST} (h : Inv n X M) : Inv (n + 1) X M := by
  obtain ⟨d, h1, h2, h3, h4, h5⟩ := h
  exact ⟨d, h1, h2, h3, h4.up, h5⟩
/-! the told PROOF's LINES -/
theorem vp_of {p : Int32} {K N : Nat} (hK : K ≤ N) (hN : N < 2 ^ 31) (h0 : ¬ p < 0) (h1 : ¬ nI K ≤ p) : ∃ j, j < K ∧ p = nI j ∧ vp_in p N ∧ p.toNatClampNeg = j := by
  obtain ⟨j, hj, rfl⟩ := nI_of h0
  have hjK : j < K := by
    rcases Nat.lt_or_ge j K with q | q
    · exact q
    · exact absurd (nI_le q hj) h1
  exact ⟨j, hjK, rfl, vp_in_nI (by omega) hN, nI_clamp hj⟩
theorem rg {p c : Int32} {A B : Prop} (hA : (p < 0 ∨ c ≤ p) → A) (hB : ¬ p < 0 → ¬ c ≤ p → B) : (p < 0 → A) ∧ (¬ p < 0 → ((c ≤ p → A) ∧ (¬ c ≤ p → B))) := ⟨fun h => hA (Or.inl h), fun h => ⟨fun h2 => hA (Or.inr h2), fun h2 => hB h h2⟩⟩
theorem no1 {A B : Prop} (h : B) : (¬ (0 : Int32) = 0 → A) ∧ ((0 : Int32) = 0 → B) := ⟨fun c => absurd rfl c, fun _ => h⟩
theorem no2 {A B : Prop} (h : A) : ((0 : Int32) = 0 → A) ∧ (¬ (0 : Int32) = 0 → B) := ⟨fun _ => h, fun c => absurd rfl c⟩
theorem ya1 {A B : Prop} (h : A) : (¬ (1 : Int32) = 0 → A) ∧ ((1 : Int32) = 0 → B) := ⟨fun _ => h, fun c => absurd c (by decide)⟩
theorem ya2 {A B : Prop} (h : B) : ((1 : Int32) = 0 → A) ∧ (¬ (1 : Int32) = 0 → B) := ⟨fun c => absurd c (by decide), fun _ => h⟩
theorem bh {c A B : Prop} (ha : c → A) (hb : ¬ c → B) : (c → A) ∧ (¬ c → B) := ⟨ha, hb⟩
theorem bn {c A B : Prop} (ha : ¬ c → A) (hb : c → B) : (¬ c → A) ∧ (c → B) := ⟨ha, hb⟩
theorem nm {α : Type} {e : α} {P : α → Prop} (h : P e) : ∀ x, x = e → P x := fun x hx => hx ▸ h
theorem lt_nle {x y : Int32} : x < y ↔ ¬ y ≤ x := by
  rw [Int32.lt_iff_toInt_lt, Int32.le_iff_toInt_le]; omega
theorem le_nlt {x y : Int32} : x ≤ y ↔ ¬ y < x := by
  rw [Int32.lt_iff_toInt_lt, Int32.le_iff_toInt_le]; omega
