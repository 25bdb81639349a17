/-! PURE: the class looks for the first of the shortest ROUNDS -/
theorem cn_s (p : Nat → Bool) (n : Nat) : cn p (n + 1) = cn p n + (if p n = true then 1 else 0) := rfl
theorem cn_up (p : Nat → Bool) {a : Nat} : ∀ b, a ≤ b → cn p a ≤ cn p b
  | 0, h => by
    have : a = 0 := by omega
    subst this; exact Nat.le_refl _
  | b + 1, h => by
    by_cases e : a = b + 1
    · subst e; exact Nat.le_refl _
    · have := cn_up p (a := a) b (by omega)
      rw [cn_s]; omega
theorem cn_lt (p : Nat → Bool) {a b : Nat} (h : a < b) (hp : p a = true) : cn p a < cn p b := by
  have := cn_up p (a := a + 1) b h
  rw [cn_s, if_pos hp] at this
  omega
/-- the i-th that is marked -/
def en (p : Nat → Bool) : Nat → Nat → Nat
  | 0, _ => 0
  | l + 1, i => if p l = true ∧ cn p l = i then l else en p l i
theorem en_ok (p : Nat → Bool) : ∀ (K i : Nat), i < cn p K → en p K i < K ∧ p (en p K i) = true ∧ cn p (en p K i) = i
  | 0, i, h => absurd h (by unfold cn; omega)
  | K + 1, i, h => by
    unfold en
    by_cases e : p K = true ∧ cn p K = i
    · rw [if_pos e]; exact ⟨by omega, e⟩
    · rw [if_neg e]
      have : i < cn p K := by
        rw [cn_s] at h
        by_cases q : p K = true
        · rw [if_pos q] at h
          have : cn p K ≠ i := fun z => e ⟨q, z⟩
          omega
        · rw [if_neg q] at h; omega
      have := en_ok p K i this
      exact ⟨by omega, this.2⟩
/-- the LAMPS that aren't OUT, by their numbers -/
def Ev (M : ST) (d : Nat → Nat → Nat) (K n : Nat) (e : Nat → Nat) : Prop := ML d K M ∧ n = cn (lv M) K ∧ (∀ i, i < n → e i < K ∧ m_isOut M (e i) = 0) ∧ (∀ i j, i < j → j < n → e i < e j) ∧ (∀ l, l < K → m_isOut M l = 0 → ∃ i, i < n ∧ e i = l) ∧ ∀ i, i < n → cn (lv M) (e i) = i
theorem lv_t {M : ST} {l : Nat} : lv M l = true ↔ m_isOut M l = 0 := by unfold lv; exact decide_eq_true_iff
theorem Ev_mk {M : ST} {d : Nat → Nat → Nat} {K : Nat} (hm : ML d K M) : Ev M d K (cn (lv M) K) (en (lv M) K) := by
  have sp := en_ok (lv M) K
  refine ⟨hm, rfl, fun i hi => ⟨(sp i hi).1, lv_t.mp (sp i hi).2.1⟩, fun i j hij hj => ?_, fun l hl ho => ?_, fun i hi => (sp i hi).2.2⟩
  · rcases Nat.lt_or_ge (en (lv M) K i) (en (lv M) K j) with q | q
    · exact q
    · have a := cn_up (lv M) _ q
      rw [(sp i (by omega)).2.2, (sp j hj).2.2] at a
      omega
  · have a := cn_lt (lv M) hl (lv_t.mpr ho)
    refine ⟨cn (lv M) l, a, ?_⟩
    have b := sp _ a
    rcases Nat.lt_trichotomy (en (lv M) K (cn (lv M) l)) l with q | q | q
    · have := cn_lt (lv M) q b.2.1; omega
    · exact q
    · have := cn_lt (lv M) q (lv_t.mpr ho); omega
theorem Ev.arr {M : ST} {d : Nat → Nat → Nat} {K n : Nat} {e : Nat → Nat} (h : Ev M d K n e) {f : Nat → Int32} (hf : ∀ l, l < K → m_isOut M l = 0 → f (cn (lv M) l) = nI l) : ∀ i, i < n → f i = nI (e i) := by
  intro i hi
  have a := h.2.2.1 i hi
  have := hf (e i) a.1 a.2
  rw [h.2.2.2.2.2 i hi] at this
  exact this
def RS (M : ST) (K n : Nat) (e s : Nat → Nat) : Prop := PR M K n s ∧ s 0 = e 0
def VS (M : ST) (K n : Nat) (e : Nat → Nat) (k V : Nat) (s : Nat → Nat) : Prop := RS M K n e s ∧ vl s k < V
def cst (M : ST) (d : Nat → Nat → Nat) (n : Nat) (s : Nat → Nat) : Nat := lsum (wL M d) s n n
def ps (M : ST) (d : Nat → Nat → Nat) (s : Nat → Nat) (k : Nat) : Nat := sm (fun i => cv (wL M d (s i) (s (i + 1)))) k
theorem lsum_congr {w : Nat → Nat → Nat} {r s : Nat → Nat} {n : Nat} (h : ∀ i, i < n → r i = s i) : lsum w r n n = lsum w s n n := by
  rw [lsum_sm, lsum_sm]
  exact sm_congr n (fun i hi => by rw [h i hi, h _ (nxp_lt hi)])
theorem cst_ps {M : ST} {d : Nat → Nat → Nat} {n : Nat} {s : Nat → Nat} : cst M d (n + 1) s = ps M d s n + cv (wL M d (s n) (s 0)) := by
  unfold cst ps
  rw [lsum_sm, sm_s, sm_congr (f := fun k => cv (wL M d (s k) (s (nxp (n + 1) k)))) (g := fun i => cv (wL M d (s i) (s (i + 1)))) n (fun i hi => by show cv _ = cv _; rw [nxp_y (by omega)])]
  have : nxp (n + 1) n = 0 := if_neg (by omega)
  rw [this]
theorem ps_congr {M : ST} {d : Nat → Nat → Nat} {k : Nat} {r s : Nat → Nat} (h : ∀ i, i ≤ k → r i = s i) : ps M d r k = ps M d s k := sm_congr k (fun i hi => by rw [h i (by omega), h (i + 1) (by omega)])
theorem RS.k {M : ST} {K n : Nat} {e s : Nat → Nat} (h : RS M K n e s) : ∀ i, i < n → s i < K := fun i hi => (h.1.2.1 i hi).1
theorem RS.d {M : ST} {K n : Nat} {e s : Nat → Nat} (h : RS M K n e s) (hK : K ≤ 12) : ∀ i, i < n → s i < 16 := fun i hi => by have := h.k i hi; omega
theorem cst_le {M : ST} {d : Nat → Nat → Nat} {K n : Nat} {e s : Nat → Nat} (hm : ML d K M) (h : RS M K n e s) : cst M d n s ≤ 12000000 := by
  have := lsum_le hm h.k n (Nat.le_refl _)
  have := h.1.n12 hm.1
  unfold cst
  omega
def GX (n : Nat) (mu ba : Nat → Nat → Bool) (SH : (Nat → Nat) → Prop) (s : Nat → Nat) : Prop := s 1 < s (n - 1) ∧ (∀ i, i < n → ∀ j, j < 32 → mu (s i) j = true → j = s (pvp n i) ∨ j = s (nxp n i)) ∧ (∀ i, i < n → ba (s i) (s (nxp n i)) = false) ∧ ¬ SH s
def SE (M : ST) (d : Nat → Nat → Nat) (K n : Nat) (e : Nat → Nat) (mu ba : Nat → Nat → Bool) (SH : (Nat → Nat) → Prop) (X : ST) : Prop := x_Search_size X = nI n ∧ (∀ i, i < n → x_Search_live X i = nI (e i)) ∧ (∀ a b, a < K → b < K → x_gaps X a b = nI (cv (wL M d a b))) ∧ (∀ l, l < K → ∀ j, j < 32 → bt (x_Search_musts X l) j = mu l j) ∧ (∀ l, l < K → ∀ j, j < 32 → bt (x_Search_bans X l) j = ba l j) ∧ ((x_Search_shuns X = 0 ∧ ∀ s, ¬ SH s) ∨ (¬ x_Search_shuns X = 0 ∧ ∃ z : Nat → Nat, (∀ i, i < n → x_Search_shunned X i = nI (z i) ∧ z i < 12) ∧ ∀ s, SH s ↔ ∀ i, i < n → s i = z i))
abbrev FS : ST → ST → Prop := Fe [7] [] [31, 32] []
theorem big_fs {k : Nat} (h : 100 ≤ k) : k ∉ [31, 32] := by
  intro q
  simp only [List.mem_cons, List.not_mem_nil, or_false] at q
  omega
theorem SE.fs {M : ST} {d : Nat → Nat → Nat} {K n : Nat} {e : Nat → Nat} {mu ba : Nat → Nat → Bool} {SH : (Nat → Nat) → Prop} {X X' : ST} (h : SE M d K n e mu ba SH X) (s : FS X X') : SE M d K n e mu ba SH X' := by
  unfold SE at h ⊢
  rw [show x_Search_size X' = _ from s.1 6 (by decide), show x_Search_shuns X' = _ from s.1 5 (by decide), show x_Search_live X' = _ from s.2.2.1 30 (by decide), show x_Search_musts X' = _ from s.2.2.1 28 (by decide), show x_Search_bans X' = _ from s.2.2.1 29 (by decide), show x_Search_shunned X' = _ from s.2.2.1 33 (by decide), show x_gaps X' = x_gaps X from funext fun i => s.2.2.1 _ (big_fs (by omega))]
  exact h
theorem SE.sh {M : ST} {d : Nat → Nat → Nat} {K n : Nat} {e : Nat → Nat} {mu ba : Nat → Nat → Bool} {SH : (Nat → Nat) → Prop} {X : ST} (h : SE M d K n e mu ba SH X) {s s' : Nat → Nat} (e : ∀ i, i < n → s i = s' i) (q : SH s) : SH s' := by
  rcases h.2.2.2.2.2 with ⟨_, z⟩ | ⟨_, z, _, z2⟩
  · exact absurd q (z s)
  · exact (z2 s').mpr (fun i hi => (e i hi) ▸ (z2 s).mp q i hi)
theorem SE.gx {M : ST} {d : Nat → Nat → Nat} {K n : Nat} {e : Nat → Nat} {mu ba : Nat → Nat → Bool} {SH : (Nat → Nat) → Prop} {X : ST} (h : SE M d K n e mu ba SH X) (h3 : 3 ≤ n) {s s' : Nat → Nat} (e : ∀ i, i < n → s i = s' i) (q : GX n mu ba SH s) : GX n mu ba SH s' := by
  obtain ⟨q1, q2, q3, q4⟩ := q
  refine ⟨?_, fun i hi j hj hb => ?_, fun i hi => ?_, fun z => q4 (h.sh (fun i hi => (e i hi).symm) z)⟩
  · rw [← e 1 (by omega), ← e (n - 1) (by omega)]; exact q1
  · rw [← e i hi] at hb
    rw [← e _ (pvp_lt hi), ← e _ (nxp_lt hi)]
    exact q2 i hi j hj hb
  · rw [← e i hi, ← e _ (nxp_lt hi)]
    exact q3 i hi
theorem content_ok {M : ST} {d : Nat → Nat → Nat} {K n : Nat} {e : Nat → Nat} {mu ba : Nat → Nat → Bool} {SH : (Nat → Nat) → Prop} {X : ST} {post : Int32 → ST → Prop} (h : SE M d K n e mu ba SH X) {a b c : Nat} (hK : K ≤ 12) (ha : a < K) (hb : b < K) (hc : c < K) (h1 : (∀ j, j < 32 → mu a j = true → j = b ∨ j = c) → post 1 X) (h0 : ¬ (∀ j, j < 32 → mu a j = true → j = b ∨ j = c) → post 0 X) : wp_Search_isContent X (nI a) (nI b) (nI c) post := by
  have iff : (∀ j, j < 32 → bt (x_Search_musts X a) j = true → j = b ∨ j = c) ↔ (∀ j, j < 32 → mu a j = true → j = b ∨ j = c) := by
    constructor
    · intro q j hj; rw [← h.2.2.2.1 a ha j hj]; exact q j hj
    · intro q j hj; rw [h.2.2.2.1 a ha j hj]; exact q j hj
  unfold wp_Search_isContent
  rw [nI_clamp (show a < 2 ^ 31 by omega), cont_iff (by omega) (by omega), iff]
  exact ⟨vp_in_nI (by omega) (by decide), bn h0 h1⟩
theorem follow_ok {M : ST} {d : Nat → Nat → Nat} {K n k l : Nat} {e p : Nat → Nat} {mu ba : Nat → Nat → Bool} {SH : (Nat → Nat) → Prop} {X : ST} {post : Int32 → ST → Prop} (h : SE M d K n e mu ba SH X) (hK : K ≤ 12) (h1k : 1 ≤ k) (hk : k < 8) (hp : ∀ i, i < k → p i < K) (ho : ∀ i, i < k → x_Search_order X i = nI (p i)) (hl : l < K) (h1 : ba (p (k - 1)) l = false → (2 ≤ k → ∀ j, j < 32 → mu (p (k - 1)) j = true → j = p (k - 2) ∨ j = l) → post 1 X) (h0 : (ba (p (k - 1)) l = true ∨ (2 ≤ k ∧ ¬ ∀ j, j < 32 → mu (p (k - 1)) j = true → j = p (k - 2) ∨ j = l)) → post 0 X) : wp_Search_mayFollow X (nI k) (nI (p (k - 1))) (nI l) post := by
  have a := hp (k - 1) (by omega)
  refine ⟨vp_in_nI (by omega) (by decide), ?_⟩
  rw [nI_clamp (show p (k - 1) < 2 ^ 31 by omega)]
  refine isIn_ok (by omega) (fun b => ya2 (h0 (Or.inl ?_))) (fun b => no2 ?_)
  · rw [← h.2.2.2.2.1 _ a l (by omega)]; exact b
  · rw [h.2.2.2.2.1 _ a l (by omega)] at b
    refine bh (fun c => h1 b (fun q => ?_)) (fun c => ?_)
    · have := (nI_ltI (b := 2) (by omega) (by decide)).mp c
      omega
    · have c : ¬ k < 2 := fun z => c (nI_lt (b := 2) z (by decide))
      obtain ⟨q, rfl⟩ : ∃ q, k = q + 2 := ⟨k - 2, by omega⟩
      have e2 : nI (q + 2) - 2 = nI q := by
        rw [← nI_add q 2]; exact Int32.add_sub_cancel _ _
      rw [e2, nI_clamp (show q < 2 ^ 31 by omega), ho q (by omega)]
      refine ⟨vp_in_nI (by omega) (by decide), content_ok h hK a (hp q (by omega)) hl (fun z => ya2 (h1 b (fun _ => z))) (fun z => no2 (h0 (Or.inr ⟨by omega, z⟩)))⟩
