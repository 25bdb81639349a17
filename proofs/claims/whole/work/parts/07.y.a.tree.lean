/-! PURE: THE TREE: what hangs together, which pair is taken next -/
/-- what hangs together after the first i pairs: LAMPS of one label -/
def lab (t : Nat → Nat) : Nat → Nat → Nat
  | 0, l => l
  | i + 1, l => if lab t i l = lab t i (t i / 12) then lab t i (t i % 12) else lab t i l
theorem lab_s (t : Nat → Nat) (i l : Nat) : lab t (i + 1) l = if lab t i l = lab t i (t i / 12) then lab t i (t i % 12) else lab t i l := rfl
theorem lab_congr {t t' : Nat → Nat} : ∀ i, (∀ j, j < i → t j = t' j) → ∀ l, lab t i l = lab t' i l
  | 0, _, _ => rfl
  | i + 1, h, l => by
    have e := lab_congr i (fun j hj => h j (by omega))
    rw [lab_s, lab_s, h i (by omega), e, e, e]
theorem lab_lt (t : Nat → Nat) : ∀ (i l : Nat), l < 12 → lab t i l < 12
  | 0, l, h => h
  | i + 1, l, h => by
    rw [lab_s]
    split
    · exact lab_lt t i _ (Nat.mod_lt _ (by decide))
    · exact lab_lt t i l h
theorem lab_m {t : Nat → Nat} {i x y : Nat} (h : lab t i x = lab t i y) : lab t (i + 1) x = lab t (i + 1) y := by
  rw [lab_s, lab_s, h]
theorem lab_t {t : Nat → Nat} {i : Nat} : lab t (i + 1) (t i / 12) = lab t (i + 1) (t i % 12) := by
  rw [lab_s, lab_s, if_pos rfl]
  split <;> rfl
theorem lab_iff {t : Nat → Nat} {i x y : Nat} : lab t (i + 1) x = lab t (i + 1) y ↔ (lab t i x = lab t i y ∨ ((lab t i x = lab t i (t i / 12) ∨ lab t i x = lab t i (t i % 12)) ∧ (lab t i y = lab t i (t i / 12) ∨ lab t i y = lab t i (t i % 12)))) := by
  rw [lab_s, lab_s]
  split <;> split <;> omega
/-- the order in which pairs are looked at -/
def ah (jr : Nat → Nat) (pv : Nat → Int) (k q : Nat) : Prop := jr k < jr q ∨ (jr k = jr q ∧ (pv k < pv q ∨ (pv k = pv q ∧ k < q)))
theorem ah_tri {jr : Nat → Nat} {pv : Nat → Int} {k q : Nat} : k = q ∨ ah jr pv k q ∨ ah jr pv q k := by
  unfold ah; omega
theorem ah_as {jr : Nat → Nat} {pv : Nat → Int} {k q : Nat} (h : ah jr pv k q) (g : ah jr pv q k) : False := by
  unfold ah at h g; omega
theorem ah_tr {jr : Nat → Nat} {pv : Nat → Int} {k q r : Nat} (h : ah jr pv k q) (g : ah jr pv q r) : ah jr pv k r := by
  unfold ah at h g ⊢; omega
/-- a pair that can be taken next: of THE FIRST, or of others that don't hang together -/
def cand (el : Nat → Prop) (f : Nat) (o : Bool) (t : Nat → Nat) (c k : Nat) : Prop := el k ∧ (∀ i, i < c → t i ≠ k) ∧ (o = true → k / 12 = f) ∧ (o = false → k / 12 ≠ f ∧ lab t c (k / 12) ≠ lab t c (k % 12))
theorem cand_congr {el : Nat → Prop} {f : Nat} {o : Bool} {t t' : Nat → Nat} {c k : Nat} (e : ∀ i, i < c → t i = t' i) (h : cand el f o t c k) : cand el f o t' c k := by
  refine ⟨h.1, fun i hi => ?_, h.2.2.1, fun q => ⟨(h.2.2.2 q).1, ?_⟩⟩
  · rw [← e i hi]; exact h.2.1 i hi
  · rw [← lab_congr c e, ← lab_congr c e]; exact (h.2.2.2 q).2
def Nx (el : Nat → Prop) (jr : Nat → Nat) (pv : Nat → Int) (f : Nat) (o : Bool) (t : Nat → Nat) (c k : Nat) : Prop := cand el f o t c k ∧ ∀ q, cand el f o t c q → q = k ∨ ah jr pv k q
theorem Nx_u {el : Nat → Prop} {jr : Nat → Nat} {pv : Nat → Int} {f : Nat} {o : Bool} {t t' : Nat → Nat} {c k k' : Nat} (e : ∀ i, i < c → t i = t' i) (h : Nx el jr pv f o t c k) (g : Nx el jr pv f o t' c k') : k = k' := by
  have a := h.2 k' (cand_congr (fun i hi => (e i hi).symm) g.1)
  have b := g.2 k (cand_congr e h.1)
  rcases a with a | a
  · exact a.symm
  · rcases b with b | b
    · exact b
    · exact absurd b (fun b => ah_as a b)
theorem Nx_congr {el : Nat → Prop} {jr : Nat → Nat} {pv : Nat → Int} {f : Nat} {o : Bool} {t t' : Nat → Nat} {c k : Nat} (e : ∀ i, i < c → t i = t' i) (h : Nx el jr pv f o t c k) : Nx el jr pv f o t' c k := ⟨cand_congr e h.1, fun q hq => h.2 q (cand_congr (fun i hi => (e i hi).symm) hq)⟩
/-- the pairs of THE TREE in their order: those of others, then those of THE FIRST -/
def TS (el : Nat → Prop) (jr : Nat → Nat) (pv : Nat → Int) (f : Nat) (t : Nat → Nat) (c1 c : Nat) : Prop := (∀ i, i < c1 → Nx el jr pv f false t i (t i)) ∧ (∀ k, ¬ cand el f false t c1 k) ∧ c1 ≤ c ∧ c ≤ c1 + 2 ∧ (∀ i, c1 ≤ i → i < c → Nx el jr pv f true t i (t i)) ∧ (c = c1 + 2 ∨ ∀ k, ¬ cand el f true t c k)
theorem TS_u {el : Nat → Prop} {jr : Nat → Nat} {pv : Nat → Int} {f : Nat} {t t' : Nat → Nat} {c1 c c1' c' : Nat} (h : TS el jr pv f t c1 c) (g : TS el jr pv f t' c1' c') : c1 = c1' ∧ c = c' ∧ ∀ i, i < c → t i = t' i := by
  obtain ⟨h1, h2, h3, h4, h5, h6⟩ := h
  obtain ⟨g1, g2, g3, g4, g5, g6⟩ := g
  have p1 : ∀ i, i ≤ c1 → i ≤ c1' → ∀ j, j < i → t j = t' j := by
    intro i
    induction i with
    | zero => intro _ _ j hj; omega
    | succ i ih =>
      intro a b j hj
      have e := ih (by omega) (by omega)
      by_cases y : j = i
      · subst y
        exact Nx_u e (h1 j (by omega)) (g1 j (by omega))
      · exact e j (by omega)
  have e1 : c1 = c1' := by
    rcases Nat.lt_trichotomy c1 c1' with y | y | y
    · have e := p1 c1 (Nat.le_refl _) (by omega)
      exact absurd (cand_congr (fun i hi => (e i hi).symm) (g1 c1 y).1) (h2 _)
    · exact y
    · have e := p1 c1' (by omega) (Nat.le_refl _)
      exact absurd (cand_congr e (h1 c1' y).1) (g2 _)
  subst e1
  have p2 : ∀ i, i ≤ c → i ≤ c' → ∀ j, j < i → t j = t' j := by
    intro i
    induction i with
    | zero => intro _ _ j hj; omega
    | succ i ih =>
      intro a b j hj
      have e := ih (by omega) (by omega)
      by_cases y : j = i
      · subst y
        rcases Nat.lt_or_ge j c1 with z | z
        · exact Nx_u e (h1 j z) (g1 j z)
        · exact Nx_u e (h5 j z (by omega)) (g5 j z (by omega))
      · exact e j (by omega)
  have e2 : c = c' := by
    rcases Nat.lt_trichotomy c c' with y | y | y
    · have e := p2 c (Nat.le_refl _) (by omega)
      rcases h6 with z | z
      · omega
      · exact absurd (cand_congr (fun i hi => (e i hi).symm) (g5 c (by omega) y).1) (z _)
    · exact y
    · have e := p2 c' (by omega) (Nat.le_refl _)
      rcases g6 with z | z
      · omega
      · exact absurd (cand_congr e (h5 c' (by omega) y).1) (z _)
  subst e2
  exact ⟨rfl, rfl, p2 c (Nat.le_refl _) (Nat.le_refl _)⟩
/-! how many hang apart -/
def mcp (L : Nat → Bool) (t : Nat → Nat) (c l : Nat) : Bool := decide (L l = true ∧ ∀ l', l' < l → L l' = true → lab t c l' ≠ lab t c l)
theorem mc_min {L : Nat → Bool} {t : Nat → Nat} {c : Nat} : ∀ (a : Nat), L a = true → ∃ m, m ≤ a ∧ lab t c m = lab t c a ∧ mcp L t c m = true := by
  intro a
  induction a using Nat.strongRecOn with
  | _ a ih =>
    intro ha
    by_cases q : ∃ l', l' < a ∧ L l' = true ∧ lab t c l' = lab t c a
    · obtain ⟨l', q1, q2, q3⟩ := q
      obtain ⟨m, m1, m2, m3⟩ := ih l' q1 q2
      exact ⟨m, by omega, m2.trans q3, m3⟩
    · exact ⟨a, Nat.le_refl _, rfl, decide_eq_true ⟨ha, fun l' h1 h2 h3 => q ⟨l', h1, h2, h3⟩⟩⟩
theorem mc_one {L : Nat → Bool} {t : Nat → Nat} {c K a : Nat} (ha : a < K) (la : L a = true) : 1 ≤ cn (mcp L t c) K := by
  obtain ⟨m, m1, m2, m3⟩ := mc_min (t := t) (c := c) a la
  exact inj_cn _ K 1 (fun _ => m) (fun i hi => ⟨by omega, m3⟩) (fun i j hi hj _ => by omega)
theorem mc_two {L : Nat → Bool} {t : Nat → Nat} {c K a b : Nat} (ha : a < K) (hb : b < K) (la : L a = true) (lb : L b = true) (ne : lab t c a ≠ lab t c b) : 2 ≤ cn (mcp L t c) K := by
  obtain ⟨m, m1, m2, m3⟩ := mc_min (t := t) (c := c) a la
  obtain ⟨q, q1, q2, q3⟩ := mc_min (t := t) (c := c) b lb
  have mq : m ≠ q := fun e => ne (by rw [← m2, ← q2, e])
  refine inj_cn _ K 2 (fun i => if i = 0 then m else q) (fun i hi => ?_) (fun i j hi hj e => ?_)
  · show (if i = 0 then m else q) < K ∧ mcp L t c (if i = 0 then m else q) = true
    split
    · exact ⟨by omega, m3⟩
    · exact ⟨by omega, q3⟩
  · have e : (if i = 0 then m else q) = (if j = 0 then m else q) := e
    split at e <;> split at e <;> omega
theorem mc_step {L : Nat → Bool} {t : Nat → Nat} {c K : Nat} (ha : t c / 12 < K) (hb : t c % 12 < K) (la : L (t c / 12) = true) (lb : L (t c % 12) = true) (ne : lab t c (t c / 12) ≠ lab t c (t c % 12)) : cn (mcp L t (c + 1)) K < cn (mcp L t c) K := by
  obtain ⟨m, m1, m2, m3⟩ := mc_min (t := t) (c := c) _ la
  obtain ⟨q, q1, q2, q3⟩ := mc_min (t := t) (c := c) _ lb
  have mq : m ≠ q := fun e => ne (by rw [← m2, ← q2, e])
  have eqn : lab t (c + 1) m = lab t (c + 1) q := lab_iff.mpr (Or.inr ⟨Or.inl m2, Or.inr q2⟩)
  have Lm : L m = true := (of_decide_eq_true m3).1
  have Lq : L q = true := (of_decide_eq_true q3).1
  have sub : ∀ i, i < K → mcp L t (c + 1) i = true → mcp L t c i = true := by
    intro i hi h
    have h := of_decide_eq_true h
    exact decide_eq_true ⟨h.1, fun l' h1 h2 h3 => h.2 l' h1 h2 (lab_m h3)⟩
  rcases Nat.lt_or_ge m q with y | y
  · refine cn_strict (j := q) K (by omega) sub (decide_eq_false (fun h => h.2 m y Lm eqn)) q3
  · refine cn_strict (j := m) K (by omega) sub (decide_eq_false (fun h => h.2 q (by omega) Lq eqn.symm)) m3
theorem mc_sum {L : Nat → Bool} {t : Nat → Nat} {K : Nat} : ∀ c, (∀ i, i < c → t i / 12 < K ∧ t i % 12 < K ∧ L (t i / 12) = true ∧ L (t i % 12) = true ∧ lab t i (t i / 12) ≠ lab t i (t i % 12)) → cn (mcp L t c) K + c ≤ cn L K
  | 0, _ => by
    have := cn_mono (p := mcp L t 0) (q := L) K (fun i hi h => (of_decide_eq_true h).1)
    omega
  | c + 1, h => by
    have a := mc_sum c (fun i hi => h i (by omega))
    obtain ⟨h1, h2, h3, h4, h5⟩ := h c (by omega)
    have := mc_step h1 h2 h3 h4 h5
    omega
/-! pairs of a model -/
def lpM (M : ST) (K k : Nat) : Prop := k / 12 < k % 12 ∧ k % 12 < K ∧ m_isOut M (k / 12) = 0 ∧ m_isOut M (k % 12) = 0
def elM (M : ST) (d : Nat → Nat → Nat) (K : Nat) (cs : Nat → Nat) (k : Nat) : Prop := k < 144 ∧ lpM M K k ∧ cs k ≠ 2 ∧ wL M d (k / 12) (k % 12) ≠ FARN
def jrM (cs : Nat → Nat) (k : Nat) : Nat := if cs k = 1 then 0 else 1
def pvM (M : ST) (d : Nat → Nat → Nat) (k : Nat) : Int := (wL M d (k / 12) (k % 12) : Int) + (m_price M (k / 12)).toInt + (m_price M (k % 12)).toInt
abbrev TM (M : ST) (d : Nat → Nat → Nat) (K : Nat) (cs : Nat → Nat) (f : Nat) (t : Nat → Nat) (c1 c : Nat) : Prop := TS (elM M d K cs) (jrM cs) (pvM M d) f t c1 c
/-- THE FIRST -/
def isF (M : ST) (K f : Nat) : Prop := f < K ∧ m_isOut M f = 0 ∧ ∀ l, l < f → ¬ m_isOut M l = 0
def Lf (M : ST) (f l : Nat) : Bool := decide (m_isOut M l = 0 ∧ l ≠ f)
theorem Lf_lt {M : ST} {K f : Nat} (hf : isF M K f) : cn (Lf M f) K < cn (lv M) K := cn_strict (j := f) K hf.1 (fun i hi h => lv_t.mpr (of_decide_eq_true h).1) (decide_eq_false (fun h => h.2 rfl)) (lv_t.mpr hf.2.1)
theorem lp_f {M : ST} {K f k : Nat} (hf : isF M K f) (h : lpM M K k) : k % 12 ≠ f := fun e => by
  have := h.1
  exact hf.2.2 (k / 12) (by omega) h.2.2.1
theorem seq_sum {M : ST} {d : Nat → Nat → Nat} {K f c : Nat} {cs t : Nat → Nat} (hf : isF M K f) (h : ∀ i, i < c → cand (elM M d K cs) f false t i (t i)) : cn (mcp (Lf M f) t c) K + c + 1 ≤ cn (lv M) K := by
  have a := mc_sum (L := Lf M f) (t := t) (K := K) c (fun i hi => by
    obtain ⟨h1, h2, h3, h4⟩ := h i hi
    have h4 := h4 rfl
    have lp := h1.2.1
    have := lp.1
    have := lp.2.1
    exact ⟨by omega, by omega, decide_eq_true ⟨lp.2.2.1, h4.1⟩, decide_eq_true ⟨lp.2.2.2, lp_f hf lp⟩, h4.2⟩)
  have := Lf_lt hf
  omega
theorem seq_le {M : ST} {d : Nat → Nat → Nat} {K f c : Nat} {cs t : Nat → Nat} (hf : isF M K f) (h3 : 3 ≤ cn (lv M) K) (h : ∀ i, i < c → cand (elM M d K cs) f false t i (t i)) : c + 2 ≤ cn (lv M) K := by
  have a := seq_sum hf h
  have ex : ∃ l, l < K ∧ Lf M f l = true := by
    have h2 := inj_cn (lv M) K
    rcases Classical.em (∃ l, l < K ∧ Lf M f l = true) with q | q
    · exact q
    · have : cn (lv M) K ≤ 1 := by
        have e : ∀ i, i < K → lv M i = decide (i = f) := by
          intro i hi
          by_cases y : i = f
          · subst y; rw [lv_t.mpr hf.2.1, decide_eq_true rfl]
          · rw [decide_eq_false y]
            rcases z : lv M i with _ | _
            · rfl
            · exact absurd ⟨i, hi, decide_eq_true ⟨lv_t.mp z, y⟩⟩ q
        rw [cn_congr K e]
        have one : ∀ n, cn (fun i => decide (i = f)) n ≤ 1 ∧ (n ≤ f → cn (fun i => decide (i = f)) n = 0) := by
          intro n
          induction n with
          | zero => exact ⟨by show 0 ≤ 1; omega, fun _ => rfl⟩
          | succ n ih =>
            rw [cn_s]
            by_cases y : n = f
            · subst y
              have := ih.2 (Nat.le_refl _)
              rw [this]
              refine ⟨?_, fun z => absurd z (by omega)⟩
              split <;> omega
            · rw [if_neg (by rw [decide_eq_true_iff]; exact y)]
              exact ⟨by have := ih.1; omega, fun z => by have := ih.2 (by omega); omega⟩
        exact (one K).1
      omega
  obtain ⟨l, l1, l2⟩ := ex
  have := mc_one (L := Lf M f) (t := t) (c := c) l1 l2
  omega
theorem seq_all {M : ST} {d : Nat → Nat → Nat} {K f c : Nat} {cs t : Nat → Nat} (hf : isF M K f) (h : ∀ i, i < c → cand (elM M d K cs) f false t i (t i)) (hc : cn (lv M) K ≤ c + 2) {a b : Nat} (ha : a < K) (hb : b < K) (oa : m_isOut M a = 0) (ob : m_isOut M b = 0) (fa : a ≠ f) (fb : b ≠ f) : lab t c a = lab t c b := by
  rcases Classical.em (lab t c a = lab t c b) with q | q
  · exact q
  · have s := seq_sum hf h
    have := mc_two (L := Lf M f) (t := t) (c := c) ha hb (decide_eq_true ⟨oa, fa⟩) (decide_eq_true ⟨ob, fb⟩) q
    omega
/-- only LAMPS that aren't OUT hang with others -/
theorem lab_lit {t : Nat → Nat} {Q : Nat → Prop} : ∀ c, (∀ i, i < c → Q (t i / 12) ∧ Q (t i % 12)) → ∀ x y, lab t c x = lab t c y → x = y ∨ (Q x ∧ Q y)
  | 0, _, x, y, e => Or.inl e
  | c + 1, h, x, y, e => by
    have ih := lab_lit c (fun i hi => h i (by omega))
    have hc := h c (by omega)
    rcases lab_iff.mp e with q | ⟨q1, q2⟩
    · exact ih x y q
    · refine Or.inr ⟨?_, ?_⟩
      · rcases q1 with q | q
        · rcases ih _ _ q with z | z
          · rw [z]; exact hc.1
          · exact z.1
        · rcases ih _ _ q with z | z
          · rw [z]; exact hc.2
          · exact z.1
      · rcases q2 with q | q
        · rcases ih _ _ q with z | z
          · rw [z]; exact hc.1
          · exact z.1
        · rcases ih _ _ q with z | z
          · rw [z]; exact hc.2
          · exact z.1
