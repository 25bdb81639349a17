/-! PURE: climb -/
theorem isLiveN_ok {X M : ST} {K l : Nat} {post : Int32 → ST → Prop} (hK : K ≤ 12) (hc : x_Lamps_count X = nI K) (hl : ∀ l, l < 32 → bt (x_Lamps_live X) l = decide (l < K ∧ m_isOut M l = 0)) (hlK : l < K) (h1 : m_isOut M l = 0 → post 1 X) (h0 : ¬ m_isOut M l = 0 → post 0 X) : wp_Lamps_isLive X (nI l) post := by
  refine nay (nI_pos (by omega)) ?_
  rw [hc]
  refine nay (nI_ge hlK (by omega)) (ya2 (isIn_ok (by omega) (fun c => ya2 (h1 ?_)) (fun c => no2 (h0 ?_))))
  · rw [hl l (by omega)] at c; exact (of_decide_eq_true c).2
  · rw [hl l (by omega)] at c; exact fun q => (of_decide_eq_false c) ⟨hlK, q⟩
def dcP (M : ST) (K : Nat) (P : Nat → Int32) (l : Nat) : Int32 := if l < K ∧ m_isOut M l = 0 then P l - 2 else P l
def pq (t : Nat → Nat) (P0 : Nat → Int32) : Nat → Nat → Int32
  | 0 => P0
  | i + 1 => upd (upd (pq t P0 i) (t i / 12) (pq t P0 i (t i / 12) + 1)) (t i % 12) (upd (pq t P0 i) (t i / 12) (pq t P0 i (t i / 12) + 1) (t i % 12) + 1)
theorem pq_s (t : Nat → Nat) (P0 : Nat → Int32) (i : Nat) : pq t P0 (i + 1) = upd (upd (pq t P0 i) (t i / 12) (pq t P0 i (t i / 12) + 1)) (t i % 12) (upd (pq t P0 i) (t i / 12) (pq t P0 i (t i / 12) + 1) (t i % 12) + 1) := rfl
theorem pq_at {t : Nat → Nat} {P0 : Nat → Int32} {i l : Nat} (h : t i / 12 ≠ t i % 12) : pq t P0 (i + 1) l = if l = t i / 12 ∨ l = t i % 12 then pq t P0 i l + 1 else pq t P0 i l := by
  rw [pq_s]
  by_cases e : l = t i % 12
  · subst e
    rw [pk_us, pk_un (fun z => h z.symm), if_pos (Or.inr rfl)]
  · rw [pk_un e]
    by_cases e2 : l = t i / 12
    · subst e2
      rw [pk_us, if_pos (Or.inl rfl)]
    · rw [pk_un e2, if_neg (by rintro (z | z); exact e2 z; exact e z)]
theorem pq_congr {t t' : Nat → Nat} {P Q : Nat → Int32} {K : Nat} (e : ∀ l, l < K → P l = Q l) : ∀ c, (∀ i, i < c → t i = t' i) → (∀ i, i < c → t i / 12 ≠ t i % 12) → ∀ l, l < K → pq t P c l = pq t' Q c l
  | 0, _, _, l, hl => e l hl
  | c + 1, h, g, l, hl => by
    have ih := pq_congr (t := t) (t' := t') e c (fun i hi => h i (by omega)) (fun i hi => g i (by omega)) l hl
    have gc := g c (by omega)
    rw [pq_at gc, pq_at (by rw [← h c (by omega)]; exact gc), ih, h c (by omega)]
theorem pq_out {t : Nat → Nat} {P0 : Nat → Int32} {l : Nat} : ∀ c, (∀ i, i < c → t i / 12 ≠ t i % 12) → (∀ i, i < c → t i / 12 ≠ l ∧ t i % 12 ≠ l) → pq t P0 c l = P0 l
  | 0, _, _ => rfl
  | c + 1, g, h => by
    have hc := h c (by omega)
    rw [pq_at (g c (by omega)), if_neg (by rintro (z | z); exact hc.1 z.symm; exact hc.2 z.symm)]
    exact pq_out c (fun i hi => g i (by omega)) (fun i hi => h i (by omega))
theorem i32_1 {x : Int32} (h1 : -100000000 ≤ x.toInt) (h2 : x.toInt ≤ 100000000) : (x + 1).toInt = x.toInt + 1 := by
  rw [Int32.toInt_add]
  have y1 : (1 : Int32).toInt = 1 := rfl
  rw [y1]
  exact Int.bmod_eq_of_le (by omega) (by omega)
theorem i32_2 {x : Int32} (h1 : -100000000 ≤ x.toInt) (h2 : x.toInt ≤ 100000000) : (x - 2).toInt = x.toInt - 2 := by
  rw [Int32.toInt_sub]
  have y1 : (2 : Int32).toInt = 2 := rfl
  rw [y1]
  exact Int.bmod_eq_of_le (by omega) (by omega)
theorem pq_b {t : Nat → Nat} {P0 : Nat → Int32} {l : Nat} (h1 : -90000000 ≤ (P0 l).toInt) (h2 : (P0 l).toInt ≤ 90000000) : ∀ c, c ≤ 1000 → (∀ i, i < c → t i / 12 ≠ t i % 12) → (P0 l).toInt ≤ (pq t P0 c l).toInt ∧ (pq t P0 c l).toInt ≤ (P0 l).toInt + c
  | 0, _, _ => ⟨Int.le_refl _, by show (P0 l).toInt ≤ _; omega⟩
  | c + 1, hc, g => by
    have ih := pq_b (t := t) h1 h2 c (by omega) (fun i hi => g i (by omega))
    rw [pq_at (g c (by omega))]
    split
    · rw [i32_1 (by omega) (by omega)]; omega
    · omega
theorem prg (X : ST) (g : Nat → Int32) : x_Lamps_prices (xs_Lamps_prices X g) = g := gA_sA _ _ _
theorem pr2 (X : ST) (f g : Nat → Int32) : xs_Lamps_prices (xs_Lamps_prices X f) g = xs_Lamps_prices X g := sA_sA _ _ _ _
theorem prs (X : ST) : xs_Lamps_prices X (x_Lamps_prices X) = X := sA_self X 23
theorem raise_ok {X M : ST} {d : Nat → Nat → Nat} {K c cf : Nat} {t : Nat → Nat} {post : ST → Prop} (hK : K ≤ 12) (hc : x_Lamps_count X = nI K) (hl : ∀ l, l < 32 → bt (x_Lamps_live X) l = decide (l < K ∧ m_isOut M l = 0)) (gr : GR M d t c cf X) (hc12 : c ≤ 12) (ht : ∀ i, i < c → t i < 144) (h : post (xs_Lamps_prices X (pq t (dcP M K (x_Lamps_prices X)) c))) : wp_Tree_raisePrices X post := by
  have v : ∀ k, k < 12 → vp_in (nI k) 12 := fun k hk => vp_in_nI hk (by decide)
  have two : ∀ (r i : Nat), i + r = c → wp_Tree_raisePrices_45 (fun X11 => post X11) post (r + 1) (xs_Lamps_prices X (pq t (dcP M K (x_Lamps_prices X)) i)) (nI i) := by
    intro r
    induction r with
    | zero =>
      intro i hi
      have : i = c := by omega
      subst this
      exact yes (by rw [show ∀ g, x_Tree_takenCount (xs_Lamps_prices X g) = nI i from fun g => gr.1]; exact nI_le (Nat.le_refl _) (by omega)) h
    | succ r ih =>
      intro i hi
      have k4 := ht i (by omega)
      have ep : ∀ g, x_Tree_takenPairs (xs_Lamps_prices X g) i = nI (kcode (t i)) := fun g => gr.2.2.1 i (by omega)
      refine nay (by rw [show ∀ g, x_Tree_takenCount (xs_Lamps_prices X g) = nI c from fun g => gr.1]; exact nI_ge (by omega) (by omega)) ⟨v _ (by omega), ?_⟩
      rw [nI_clamp (show i < 2 ^ 31 by omega), ep]
      refine lesser_ok k4 ⟨v _ (by omega), v _ (by omega), nm ⟨v _ (by omega), ?_⟩⟩
      rw [pr2, ep]
      refine greater_ok k4 ⟨v _ (by omega), v _ (by omega), nm ?_⟩
      rw [pr2, prg, prg, nI_clamp (show t i / 12 < 2 ^ 31 by omega), nI_clamp (show t i % 12 < 2 ^ 31 by omega), nI_1, ← pq_s]
      exact ih (i + 1) (by omega)
  have one : ∀ (r i : Nat) (g : Nat → Int32), i + r = K → (∀ l, g l = if l < i then dcP M K (x_Lamps_prices X) l else x_Lamps_prices X l) → wp_Tree_raisePrices_2 (fun X4 => ∃ n, wp_Tree_raisePrices_45 (fun X11 => post X11) post n X4 0) post (r + 1) (xs_Lamps_prices X g) (nI i) := by
    intro r
    induction r with
    | zero =>
      intro i g hi hg
      have e : g = dcP M K (x_Lamps_prices X) := funext fun l => by
        rw [hg l]
        split
        · rfl
        · unfold dcP; rw [if_neg (by omega)]
      refine yes (by rw [show x_Lamps_count (xs_Lamps_prices X g) = nI K from hc]; exact nI_le (by omega) (by omega)) ?_
      rw [e]
      exact ⟨_, two c 0 (by omega)⟩
    | succ r ih =>
      intro i g hi hg
      refine nay (by rw [show x_Lamps_count (xs_Lamps_prices X g) = nI K from hc]; exact nI_ge (by omega) (by omega)) (isLiveN_ok (X := xs_Lamps_prices X g) (M := M) hK hc hl (by omega) (fun o => ya2 ⟨v _ (by omega), v _ (by omega), nm ?_⟩) (fun o => no2 ?_))
      · rw [pr2, prg, nI_clamp (show i < 2 ^ 31 by omega), nI_1]
        refine ih (i + 1) _ (by omega) (fun l => ?_)
        by_cases y : l = i
        · subst y
          rw [pk_us, hg l, if_neg (by omega), if_pos (by omega)]
          unfold dcP
          rw [if_pos ⟨by omega, o⟩]
        · rw [pk_un y, hg l]
          by_cases z : l < i
          · rw [if_pos z, if_pos (by omega)]
          · rw [if_neg z, if_neg (by omega)]
      · rw [nI_1]
        refine ih (i + 1) g (by omega) (fun l => ?_)
        rw [hg l]
        by_cases y : l = i
        · subst y
          rw [if_neg (by omega), if_pos (by omega)]
          unfold dcP
          rw [if_neg (fun z => o z.2)]
        · by_cases z : l < i
          · rw [if_pos z, if_pos (by omega)]
          · rw [if_neg z, if_neg (by omega)]
  have st := one K 0 (x_Lamps_prices X) (by omega) (fun l => by rw [if_neg (by omega)])
  rw [prs] at st
  exact ⟨_, st⟩
theorem mpg (M : ST) (g : Nat → Int32) : m_price (ms_price M g) = g := gA_sA _ _ _
theorem mp2 (M : ST) (f g : Nat → Int32) : ms_price (ms_price M f) g = ms_price M g := sA_sA _ _ _ _
theorem mps (M : ST) : ms_price M (m_price M) = M := sA_self M 59
theorem mraise_ok {Z M : ST} {K c : Nat} {t : Nat → Nat} {a b d' : Int32} {Q : ST → Int32 → Int32 → Int32 → Prop} {post : Int32 → ST → Prop} (hK : K ≤ 12) (hl : m_lamps Z = nI K) (ho : m_isOut Z = m_isOut M) (mg : MG t c Z) (hc12 : c ≤ 12) (ht : ∀ i, i < c → t i < 144) (h : Q (ms_price Z (pq t (dcP M K (m_price Z)) c)) a b d') : ∃ n, wp_m_climb_54 (fun M9 v10 v11 v12 => ∃ n, wp_m_climb_97 (fun M15 v16 v17 v18 => Q M15 v16 v17 v18) post n M9 v10 v11 v12 0) post n Z a b d' 0 := by
  have v : ∀ k, k < 12 → vp_in (nI k) 12 := fun k hk => vp_in_nI hk (by decide)
  have w : ∀ k, k < 24 → vp_in (nI k) 24 := fun k hk => vp_in_nI hk (by decide)
  have two : ∀ (r i : Nat), i + r = c → wp_m_climb_97 (fun M15 v16 v17 v18 => Q M15 v16 v17 v18) post (r + 1) (ms_price Z (pq t (dcP M K (m_price Z)) i)) a b d' (nI i) := by
    intro r
    induction r with
    | zero =>
      intro i hi
      have : i = c := by omega
      subst this
      exact yes (by rw [show ∀ g, m_taken (ms_price Z g) = nI i from fun g => mg.1]; exact nI_le (Nat.le_refl _) (by omega)) h
    | succ r ih =>
      intro i hi
      have k4 := ht i (by omega)
      have ep : ∀ g, m_takenPair (ms_price Z g) i = nI (t i) := fun g => mg.2.1 i (by omega)
      refine nay (by rw [show ∀ g, m_taken (ms_price Z g) = nI c from fun g => mg.1]; exact nI_ge (by omega) (by omega)) ⟨w _ (by omega), ?_⟩
      rw [nI_clamp (show i < 2 ^ 31 by omega), ep, d12 (show t i < 2 ^ 31 by omega)]
      refine ⟨v _ (by omega), v _ (by omega), nm ⟨w _ (by omega), ?_⟩⟩
      rw [mp2, ep, r12 (show t i < 2 ^ 31 by omega)]
      refine ⟨v _ (by omega), v _ (by omega), nm ?_⟩
      rw [mp2, mpg, mpg, nI_clamp (show t i / 12 < 2 ^ 31 by omega), nI_clamp (show t i % 12 < 2 ^ 31 by omega), nI_1, ← pq_s]
      exact ih (i + 1) (by omega)
  have one : ∀ (r i : Nat) (g : Nat → Int32), i + r = K → (∀ l, g l = if l < i then dcP M K (m_price Z) l else m_price Z l) → wp_m_climb_54 (fun M9 v10 v11 v12 => ∃ n, wp_m_climb_97 (fun M15 v16 v17 v18 => Q M15 v16 v17 v18) post n M9 v10 v11 v12 0) post (r + 1) (ms_price Z g) a b d' (nI i) := by
    intro r
    induction r with
    | zero =>
      intro i g hi hg
      have e : g = dcP M K (m_price Z) := funext fun l => by
        rw [hg l]
        split
        · rfl
        · unfold dcP; rw [if_neg (by omega)]
      refine yes (by rw [show m_lamps (ms_price Z g) = nI K from hl]; exact nI_le (by omega) (by omega)) ?_
      rw [e]
      exact ⟨_, two c 0 (by omega)⟩
    | succ r ih =>
      intro i g hi hg
      have vi := v i (by omega)
      refine nay (by rw [show m_lamps (ms_price Z g) = nI K from hl]; exact nI_ge (by omega) (by omega)) ⟨vi, vi, ?_⟩
      rw [nI_clamp (show i < 2 ^ 31 by omega), show m_isOut (ms_price Z g) = m_isOut M from ho, mpg, nI_1]
      have gi : g i = m_price Z i := by rw [hg i, if_neg (by omega)]
      refine bh (fun o => ⟨vi, nm ?_⟩) (fun o => ⟨vi, nm ?_⟩)
      · rw [mp2]
        refine ih (i + 1) _ (by omega) (fun l => ?_)
        by_cases y : l = i
        · subst y
          rw [pk_us, gi, if_pos (by omega)]
          unfold dcP
          rw [if_pos ⟨by omega, o⟩]
        · rw [pk_un y, hg l]
          by_cases z : l < i
          · rw [if_pos z, if_pos (by omega)]
          · rw [if_neg z, if_neg (by omega)]
      · rw [mp2]
        refine ih (i + 1) _ (by omega) (fun l => ?_)
        by_cases y : l = i
        · subst y
          rw [pk_us, gi, if_pos (by omega), Int32.sub_zero]
          unfold dcP
          rw [if_neg (fun z => o z.2)]
        · rw [pk_un y, hg l]
          by_cases z : l < i
          · rw [if_pos z, if_pos (by omega)]
          · rw [if_neg z, if_neg (by omega)]
  have st := one K 0 (m_price Z) (by omega) (fun l => by rw [if_neg (by omega)])
  rw [mps] at st
  exact ⟨_, st⟩
theorem ah_pv {jr : Nat → Nat} {pv pv' : Nat → Int} {k q : Nat} (ek : pv k = pv' k) (eq : pv q = pv' q) (h : ah jr pv k q) : ah jr pv' k q := by
  unfold ah at h ⊢
  rw [← ek, ← eq]
  exact h
theorem Nx_pv {el : Nat → Prop} {jr : Nat → Nat} {pv pv' : Nat → Int} {f : Nat} {o : Bool} {t : Nat → Nat} {c k : Nat} (e : ∀ k, el k → pv k = pv' k) (h : Nx el jr pv f o t c k) : Nx el jr pv' f o t c k := ⟨h.1, fun q hq => by
  rcases h.2 q hq with y | y
  · exact Or.inl y
  · exact Or.inr (ah_pv (e k h.1.1) (e q hq.1) y)⟩
theorem TS_pv {el : Nat → Prop} {jr : Nat → Nat} {pv pv' : Nat → Int} {f : Nat} {t : Nat → Nat} {c1 c : Nat} (e : ∀ k, el k → pv k = pv' k) (h : TS el jr pv f t c1 c) : TS el jr pv' f t c1 c := ⟨fun i hi => Nx_pv e (h.1 i hi), h.2.1, h.2.2.1, h.2.2.2.1, fun i a b => Nx_pv e (h.2.2.2.2.1 i a b), h.2.2.2.2.2⟩
/-- no bound: THE TREE doesn't hang together -/
def Endl (M : ST) (K f : Nat) (t : Nat → Nat) (c1 c : Nat) : Prop := ¬ (c = c1 + 2 ∧ ∀ l, l < K → m_isOut M l = 0 → lab t c l = lab t c f)
theorem Endl_congr {M : ST} {K f : Nat} {t t' : Nat → Nat} {c1 c : Nat} (e : ∀ i, i < c → t i = t' i) (h : Endl M K f t c1 c) : Endl M K f t' c1 c := by
  unfold Endl at h ⊢
  simp only [lab_congr c e] at h
  exact h
def RC (M : ST) (d : Nat → Nat → Nat) (K f : Nat) : Nat → Nat → (Nat → Int32) → Nat → (Nat → Int32) → Prop
  | 0, k, P, k', P' => k' = k ∧ ∀ l, l < K → P' l = P l
  | m + 1, k, P, k', P' => ∃ t c1 c, TM (ms_price M P) d K (fun _ => 0) f t c1 c ∧ ((Endl M K f t c1 c ∧ k' = k ∧ ∀ l, l < K → P' l = P l) ∨ (¬ Endl M K f t c1 c ∧ RC M d K f m (k + 1) (pq t (dcP M K P) c) k' P'))
theorem TM_pv {M : ST} {d : Nat → Nat → Nat} {K f : Nat} {cs t : Nat → Nat} {c1 c : Nat} {P Q : Nat → Int32} (e : ∀ l, l < K → P l = Q l) (h : TM (ms_price M P) d K cs f t c1 c) : TM (ms_price M Q) d K cs f t c1 c := by
  refine TS_pv (fun k ek => ?_) h
  have lp := ek.2.1
  have := lp.1
  have := lp.2.1
  unfold pvM
  rw [mpg, mpg, e _ (show k / 12 < K by omega), e _ lp.2.1]
  rfl
theorem RC_u {M : ST} {d : Nat → Nat → Nat} {K f : Nat} : ∀ (m k : Nat) (P Q : Nat → Int32) (a b : Nat) (A B : Nat → Int32), (∀ l, l < K → P l = Q l) → RC M d K f m k P a A → RC M d K f m k Q b B → a = b ∧ ∀ l, l < K → A l = B l
  | 0, k, P, Q, a, b, A, B, e, h, g => ⟨h.1.trans g.1.symm, fun l hl => by rw [h.2 l hl, g.2 l hl, e l hl]⟩
  | m + 1, k, P, Q, a, b, A, B, e, h, g => by
    obtain ⟨t, c1, c, tm, h⟩ := h
    obtain ⟨t', c1', c', tm', g⟩ := g
    obtain ⟨e1, e2, e3⟩ := TS_u (TM_pv e tm) tm'
    subst e1; subst e2
    rcases h with ⟨h1, h2, h3⟩ | ⟨h1, h2⟩
    · rcases g with ⟨g1, g2, g3⟩ | ⟨g1, g2⟩
      · exact ⟨h2.trans g2.symm, fun l hl => by rw [h3 l hl, g3 l hl, e l hl]⟩
      · exact absurd (Endl_congr e3 h1) g1
    · rcases g with ⟨g1, g2, g3⟩ | ⟨g1, g2⟩
      · exact absurd (Endl_congr (fun i hi => (e3 i hi).symm) g1) h1
      · refine RC_u m (k + 1) _ _ a b A B (fun l hl => ?_) h2 g2
        refine pq_congr (K := K) (fun l hl => ?_) c e3 (fun i hi => ?_) l hl
        · unfold dcP; rw [e l hl]
        · have := (tm.lits i hi).2.1.1
          omega
theorem RC_end {M : ST} {d : Nat → Nat → Nat} {K f : Nat} {t : Nat → Nat} {c1 c : Nat} {P : Nat → Int32} (tm : TM (ms_price M P) d K (fun _ => 0) f t c1 c) (en : Endl M K f t c1 c) : ∀ (m k k' : Nat) (P' : Nat → Int32), RC M d K f m k P k' P' → k' = k ∧ ∀ l, l < K → P' l = P l
  | 0, k, k', P', h => h
  | m + 1, k, k', P', h => by
    obtain ⟨t', c1', c', tm', h⟩ := h
    obtain ⟨e1, e2, e3⟩ := TS_u tm tm'
    subst e1; subst e2
    rcases h with ⟨h1, h2, h3⟩ | ⟨h1, h2⟩
    · exact ⟨h2, h3⟩
    · exact absurd (Endl_congr e3 en) h1
theorem psum_b {pv : Nat → Int} {t : Nat → Nat} : ∀ c, (∀ i, i < c → -2000000 ≤ pv (t i) ∧ pv (t i) ≤ 2039000) → -2039000 * (c : Int) ≤ psum pv t c ∧ psum pv t c ≤ 2039000 * (c : Int)
  | 0, _ => ⟨by show _ ≤ (0 : Int); omega, by show (0 : Int) ≤ _; omega⟩
  | c + 1, h => by
    have a := psum_b c (fun i hi => h i (by omega))
    have b := h c (by omega)
    rw [psum_s]
    omega
theorem plit_b {M : ST} {K : Nat} (hp : PB M K) : ∀ l, l ≤ K → -1000000 * (l : Int) ≤ plit M l ∧ plit M l ≤ 1000000 * (l : Int)
  | 0, _ => ⟨by show _ ≤ (0 : Int); omega, by show (0 : Int) ≤ _; omega⟩
  | l + 1, h => by
    have a := plit_b hp l (by omega)
    have b := hp l (by omega)
    rw [plit_s]
    split <;> omega
theorem VV_b {M : ST} {d : Nat → Nat → Nat} {K f : Nat} {cs t : Nat → Nat} {c1 c : Nat} {v : Int64} (hm : ML d K M) (hb : PB M K) (tm : TM M d K cs f t c1 c) (c12 : c ≤ 12) (vv : VV M d K f t c1 c v) : (Endl M K f t c1 c ∧ v = 4611686018427387904) ∨ (¬ Endl M K f t c1 c ∧ ¬ 4611686018427387904 ≤ v) := by
  have hK := hm.1
  rcases vv with ⟨h1, h2, h3⟩ | ⟨h1, h2⟩
  · refine Or.inr ⟨fun z => z ⟨h1, h2⟩, ?_⟩
    have a := psum_b (pv := pvM M d) (t := t) c (fun i hi => by
      have el := tm.lits i hi
      exact pv_b hm hb el.2.1 el.2.2.2)
    have b := plit_b hb K (Nat.le_refl _)
    rw [h3, show (4611686018427387904 : Int64) = oL 4611686018427387904 from rfl, oL_le (by omega) (by omega) (by omega) (by omega)]
    omega
  · exact Or.inl ⟨h1, h2⟩
