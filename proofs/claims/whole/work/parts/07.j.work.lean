/-! PURE: the model's work() -/
def Rep (f : Nat → Int32) (W : Nat → Nat → Nat) : Prop := ∀ a b, a < 40 → b < 40 → f (40 * a + b) = nI (W a b)
def up2 (W : Nat → Nat → Nat) (a b v : Nat) : Nat → Nat → Nat := fun x y => if x = a ∧ y = b then v else W x y
theorem rep_up {f : Nat → Int32} {W : Nat → Nat → Nat} (h : Rep f W) {a b : Nat} (hb : b < 40) (v : Nat) : Rep (upd f (40 * a + b) (nI v)) (up2 W a b v) := by
  intro x y hx hy
  unfold up2
  by_cases e : x = a ∧ y = b
  · obtain ⟨rfl, rfl⟩ := e
    rw [pk_us, if_pos ⟨rfl, rfl⟩]
  · rw [pk_un (fun q => e (by constructor <;> omega)), if_neg e]
    exact h x y hx hy
theorem ways2 (M : ST) (f g : Nat → Int32) : ms_ways (ms_ways M f) g = ms_ways M g := sA_sA _ _ _ _
theorem waysg (M : ST) (f : Nat → Int32) : m_ways (ms_ways M f) = f := gA_sA _ _ _
theorem wayss (M : ST) : ms_ways M (m_ways M) = M := by
  show (M.1, M.2.1, ks_up M.2.2.1 _ (M.2.2.1 _), M.2.2.2) = M
  rw [show ∀ k, ks_up M.2.2.1 k (M.2.2.1 k) = M.2.2.1 from fun k => funext fun j => by by_cases e : j = k <;> simp [ks_up, e]]
theorem ixA (k m : Nat) (hk : k < 1600) : nI k / 40 * 40 + nI m = nI (k / 40 * 40 + m) := by
  rw [show (40 : Int32) = nI 40 from rfl, pk_div (by omega) (by decide) (by decide), pk_mul, nI_add]
theorem ixB (k m : Nat) (hk : k < 1600) : 40 * nI m + (nI k - nI k / 40 * 40) = nI (40 * m + k % 40) := by
  rw [show (40 : Int32) = nI 40 from rfl, pk_rem (by omega) (by decide) (by decide), pk_mul, nI_add]
theorem ixC (a b : Nat) : 40 * nI a + nI b = nI (40 * a + b) := by
  rw [show (40 : Int32) = nI 40 from rfl, pk_mul, nI_add]
theorem w_fill {M : ST} {K : ST → Prop} {post : ST → Prop} (h : ∀ f, Rep f (fun a b => if a = b then 0 else FARN) → K (ms_ways M f)) : ∃ n, wp_m_work_2 K post n M 0 := by
  have go : ∀ (m i : Nat) (f : Nat → Int32), i + m = 1600 → (∀ j, j < i → f j = nI (if j / 40 = j % 40 then 0 else FARN)) → wp_m_work_2 K post (m + 1) (ms_ways M f) (nI i) := by
    intro m
    induction m with
    | zero =>
      intro i f hi hf
      refine yes (nI_le (a := 1600) (by omega) (by omega)) (h f (fun a b ha hb => ?_))
      rw [hf _ (by omega)]
      have e1 : (40 * a + b) / 40 = a := by omega
      have e2 : (40 * a + b) % 40 = b := by omega
      rw [e1, e2]
    | succ m ih =>
      intro i f hi hf
      refine nay (nI_ge (b := 1600) (by omega) (by decide)) ?_
      have e1 : nI i / 40 = nI (i / 40) := pk_div (d := 40) (by omega) (by decide) (by decide)
      have e2 : nI i - nI i / 40 * 40 = nI (i % 40) := pk_rem (d := 40) (by omega) (by decide) (by decide)
      rw [e2, e1, nI_clamp (by omega), nI_1]
      refine bn (fun c => ⟨vp_in_nI (by omega) (by decide), nm ?_⟩) (fun c => ⟨vp_in_nI (by omega) (by decide), nm ?_⟩)
      · rw [ways2, waysg]
        refine ih (i + 1) _ (by omega) (fun j hj => ?_)
        by_cases e : j = i
        · subst e
          rw [pk_us, if_neg (fun q => c (by rw [q]))]
          rfl
        · rw [pk_un e]; exact hf j (by omega)
      · rw [ways2, waysg]
        refine ih (i + 1) _ (by omega) (fun j hj => ?_)
        by_cases e : j = i
        · subst e
          rw [pk_us, if_pos ((nI_eq (by omega) (by omega)).mp c)]
          rfl
        · rw [pk_un e]; exact hf j (by omega)
  have := go 1600 0 (m_ways M) (by omega) (fun j hj => absurd hj (by omega))
  rw [wayss] at this
  exact ⟨_, this⟩
/-- what the model's LANES are -/
def MLane (M : ST) (L : Nat) : Prop := L ≤ 100 ∧ m_lanes M = nI L ∧ ∀ i, i < L → ∃ a b s, m_from M i = nI a ∧ m_to M i = nI b ∧ m_length M i = nI s ∧ a < 40 ∧ b < 40 ∧ a ≠ b ∧ 1 ≤ s ∧ s ≤ 1000 ∧ bz (m_isOpen M i)
theorem ILane.m {X M : ST} (h : ILane X M) : ∃ L, MLane M L := by
  obtain ⟨L, h1, h2, h3, h4⟩ := h
  exact ⟨L, h1, h3, fun i hi => (h4 i hi).2⟩
theorem GE_Edg (M : ST) : GE (Edg M) := by
  intro u v s h
  obtain ⟨⟨h1, h2, h3, h4⟩, i, h5, h6, h7, h8⟩ := h
  exact ⟨⟨⟨h2, h1, h3, h4⟩, i, h5, h6, h7, h8.symm⟩, h1, h2, h3, h4⟩
/-- as Edg, by the first L LANES -/
def EdN (M : ST) (L u v s : Nat) : Prop := (u < 40 ∧ v < 40 ∧ 1 ≤ s ∧ s ≤ 1000) ∧ ∃ i, i < L ∧ ¬ m_isOpen M i = 0 ∧ m_length M i = nI s ∧ ((m_from M i = nI u ∧ m_to M i = nI v) ∨ (m_from M i = nI v ∧ m_to M i = nI u))
theorem EdN_Edg {M : ST} {L u v s : Nat} (hL : MLane M L) : EdN M L u v s ↔ Edg M u v s := by
  unfold EdN Edg
  rw [hL.2.1, nI_clamp (by have := hL.1; omega)]
def LW (M : ST) (L i : Nat) (W : Nat → Nat → Nat) : Prop := (∀ a, a < 40 → W a a = 0) ∧ (∀ a b, a < 40 → b < 40 → W a b = W b a ∧ W a b ≤ FARN ∧ (W a b = FARN ∨ ∃ k, Wlk (EdN M L) k a b (W a b))) ∧ (∀ b c s, EdN M i b c s → W b c ≤ s)
theorem LW_step {M : ST} {L i a b s v : Nat} {W : Nat → Nat → Nat} (hi : i < L) (ha : a < 40) (hb : b < 40) (hab : a ≠ b) (hs : 1 ≤ s) (hs2 : s ≤ 1000) (e1 : m_from M i = nI a) (e2 : m_to M i = nI b) (e3 : m_length M i = nI s) (ho : ¬ m_isOpen M i = 0) (hv : v = if W a b ≤ s then W a b else s) (h : LW M L i W) : LW M L (i + 1) (up2 (up2 W a b v) b a v) := by
  obtain ⟨h1, h2, h3⟩ := h
  have hvs : v ≤ s := by rw [hv]; split <;> omega
  have hvW : v ≤ W a b := by rw [hv]; split <;> omega
  have sy := (h2 a b ha hb).1
  have E1 : EdN M L a b s := ⟨⟨ha, hb, hs, hs2⟩, i, hi, ho, e3, Or.inl ⟨e1, e2⟩⟩
  have E2 : EdN M L b a s := ⟨⟨hb, ha, hs, hs2⟩, i, hi, ho, e3, Or.inr ⟨e1, e2⟩⟩
  have val : ∀ x y, up2 (up2 W a b v) b a v x y = if (x = b ∧ y = a) ∨ (x = a ∧ y = b) then v else W x y := by
    intro x y
    unfold up2
    by_cases c1 : x = b ∧ y = a
    · rw [if_pos c1, if_pos (Or.inl c1)]
    · rw [if_neg c1]
      by_cases c2 : x = a ∧ y = b
      · rw [if_pos c2, if_pos (Or.inr c2)]
      · rw [if_neg c2, if_neg (fun q => q.elim c1 c2)]
  have le : ∀ x y, x < 40 → y < 40 → up2 (up2 W a b v) b a v x y ≤ W x y := by
    intro x y hx hy
    rw [val]
    split
    · next c =>
      rcases c with ⟨rfl, rfl⟩ | ⟨rfl, rfl⟩
      · rw [← sy]; exact hvW
      · exact hvW
    · exact Nat.le_refl _
  refine ⟨fun x hx => ?_, fun x y hx hy => ?_, fun x y t e => ?_⟩
  · have := le x x hx hx
    rw [h1 x hx] at this
    omega
  · refine ⟨?_, Nat.le_trans (le x y hx hy) (h2 x y hx hy).2.1, ?_⟩
    · rw [val, val]
      by_cases c : (x = b ∧ y = a) ∨ (x = a ∧ y = b)
      · rw [if_pos c, if_pos (by rcases c with ⟨p, q⟩ | ⟨p, q⟩; exact Or.inr ⟨q, p⟩; exact Or.inl ⟨q, p⟩)]
      · rw [if_neg c, if_neg (fun q => c (by rcases q with ⟨p, q⟩ | ⟨p, q⟩; exact Or.inr ⟨q, p⟩; exact Or.inl ⟨q, p⟩))]
        exact (h2 x y hx hy).1
    · rw [val]
      split
      · next c =>
        by_cases cw : W a b ≤ s
        · rw [if_pos cw] at hv
          rw [hv]
          rcases c with ⟨rfl, rfl⟩ | ⟨rfl, rfl⟩
          · rw [sy]; exact (h2 x y hx hy).2.2
          · exact (h2 x y hx hy).2.2
        · rw [if_neg cw] at hv
          rw [hv]
          right
          rcases c with ⟨rfl, rfl⟩ | ⟨rfl, rfl⟩
          · exact ⟨1, y, s, 0, E2, by omega, rfl, rfl⟩
          · exact ⟨1, y, s, 0, E1, by omega, rfl, rfl⟩
      · exact (h2 x y hx hy).2.2
  · obtain ⟨⟨x1, y1, t1, t2⟩, j, j1, j2, j3, j4⟩ := e
    by_cases ej : j = i
    · subst ej
      have est : s = t := (nI_eq (by omega) (by omega)).mp (e3.symm.trans j3)
      subst est
      rw [val, if_pos]
      · exact hvs
      · rcases j4 with ⟨q1, q2⟩ | ⟨q1, q2⟩
        · exact Or.inr ⟨((nI_eq (by omega) (by omega)).mp (e1.symm.trans q1)).symm, ((nI_eq (by omega) (by omega)).mp (e2.symm.trans q2)).symm⟩
        · exact Or.inl ⟨((nI_eq (by omega) (by omega)).mp (e2.symm.trans q2)).symm, ((nI_eq (by omega) (by omega)).mp (e1.symm.trans q1)).symm⟩
    · exact Nat.le_trans (le x y x1 y1) (h3 x y t ⟨⟨x1, y1, t1, t2⟩, j, by omega, j2, j3, j4⟩)
theorem LW_skip {M : ST} {L i : Nat} {W : Nat → Nat → Nat} (ho : m_isOpen M i = 0) (h : LW M L i W) : LW M L (i + 1) W := by
  obtain ⟨h1, h2, h3⟩ := h
  refine ⟨h1, h2, fun x y t e => ?_⟩
  obtain ⟨q, j, j1, j2, j3, j4⟩ := e
  by_cases ej : j = i
  · subst ej; exact absurd ho j2
  · exact h3 x y t ⟨q, j, by omega, j2, j3, j4⟩
theorem w_lanes {M : ST} {L : Nat} {K : ST → Prop} {post : ST → Prop} (hL : MLane M L) {f : Nat → Int32} (hf : Rep f (fun a b => if a = b then 0 else FARN)) (h : ∀ f W, Rep f W → LW M L L W → K (ms_ways M f)) : ∃ n, wp_m_work_40 K post n (ms_ways M f) 0 := by
  have go : ∀ (m i : Nat) (f : Nat → Int32) (W : Nat → Nat → Nat), i + m = L → Rep f W → LW M L i W → wp_m_work_40 K post (m + 1) (ms_ways M f) (nI i) := by
    have hL1 := hL.1
    intro m
    induction m with
    | zero =>
      intro i f W hi hf hw
      have : i = L := by omega
      subst this
      exact yes (by show m_lanes M ≤ _; rw [hL.2.1]; exact nI_le (Nat.le_refl _) (by omega)) (h f W hf hw)
    | succ m ih =>
      intro i f W hi hf hw
      have hv : vp_in (nI i) 100 := vp_in_nI (by omega) (by decide)
      refine nay (by show ¬ m_lanes M ≤ _; rw [hL.2.1]; exact nI_ge (by omega) (by omega)) ⟨hv, ?_⟩
      rw [nI_clamp (by omega), nI_1]
      obtain ⟨a, b, s, e1, e2, e3, ha, hb, hab, hs, hs2, -⟩ := hL.2.2 i (by omega)
      refine bh (fun o => ih (i + 1) f W (by omega) hf (LW_skip o hw)) (fun o => ⟨hv, hv, nm ⟨hv, hv, nm ⟨hv, ?_⟩⟩⟩)
      have E1 : 40 * m_from (ms_ways M f) i + m_to (ms_ways M f) i = nI (40 * a + b) := by
        show 40 * m_from M i + m_to M i = _
        rw [e1, e2, ixC]
      have E2 : 40 * m_to (ms_ways M f) i + m_from (ms_ways M f) i = nI (40 * b + a) := by
        show 40 * m_to M i + m_from M i = _
        rw [e1, e2, ixC]
      have E3 : m_length (ms_ways M f) i = nI s := e3
      rw [E1, E2, E3, nI_clamp (by omega), waysg]
      have v1 : vp_in (nI (40 * a + b)) 1600 := vp_in_nI (by omega) (by decide)
      have v2 : vp_in (nI (40 * b + a)) 1600 := vp_in_nI (by omega) (by decide)
      have hfab := hf a b ha hb
      have hWF := (hw.2.1 a b ha hb).2.1
      have fin : ∀ v, (v = if W a b ≤ s then W a b else s) → wp_m_work_126 (wp_m_work_40 K post (m + 1)) post (ms_ways M f) (nI i) (nI (40 * a + b)) (nI (40 * b + a)) (nI v) (nI (40 * a + b)) := by
        intro v hvv
        refine ⟨v1, nm ⟨v1, v2, nm ?_⟩⟩
        rw [nI_clamp (by omega), nI_clamp (by omega), ways2, ways2, waysg, waysg, pk_us, nI_1]
        exact ih (i + 1) _ _ (by omega) (rep_up (rep_up hf hb v) ha v) (LW_step (by omega) ha hb hab hs hs2 e1 e2 e3 o hvv hw)
      have hF : FARN < 2 ^ 31 := by decide
      refine ⟨v1, bh (fun c => ⟨v1, ?_⟩) (fun c => ⟨hv, ?_⟩)⟩
      · rw [hfab] at c ⊢
        exact fin _ (by rw [if_pos ((nI_leI (by omega) (by omega)).mp c)])
      · rw [hfab] at c
        exact fin _ (by rw [if_neg (fun q => c ((nI_leI (by omega) (by omega)).mpr q))])
  have hF : FARN = 1000000000 := rfl
  refine ⟨_, go L 0 f _ (by omega) hf ⟨fun a _ => if_pos rfl, fun a b ha hb => ⟨?_, ?_, ?_⟩, fun b c s e => ?_⟩⟩
  · by_cases e : a = b
    · subst e; rfl
    · simp only [if_neg e, if_neg (Ne.symm e)]
  · dsimp only; split <;> omega
  · by_cases e : a = b
    · subst e
      exact Or.inr ⟨0, rfl, if_pos rfl⟩
    · exact Or.inl (if_neg e)
  · obtain ⟨-, i, hi, -⟩ := e
    exact absurd hi (by omega)
def fwi (m i : Nat) (W : Nat → Nat → Nat) (a b : Nat) : Nat := if 40 * a + b < i then fw m W a b else W a b
theorem w_pass {M : ST} {m : Nat} {W : Nat → Nat → Nat} {E : Nat → Nat → Nat → Prop} {K : ST → Int32 → Prop} {post : ST → Prop} (hm : m < 40) (hW : FW E m W) {f : Nat → Int32} (hf : Rep f W) (h : ∀ f, Rep f (fw m W) → K (ms_ways M f) (nI m)) : ∃ n, wp_m_work_155 K post n (ms_ways M f) (nI m) 0 := by
  have hF : FARN = 1000000000 := rfl
  have rowm : ∀ a, a < 40 → fw m W a m = W a m := by
    intro a ha
    unfold fw
    rw [hW.1 m hm, if_neg (by omega)]
  have colm : ∀ b, b < 40 → fw m W m b = W m b := by
    intro b hb
    unfold fw
    rw [hW.1 m hm, if_neg (by omega)]
  have go : ∀ (q i : Nat) (f : Nat → Int32), i + q = 1600 → Rep f (fwi m i W) → wp_m_work_155 K post (q + 1) (ms_ways M f) (nI m) (nI i) := by
    intro q
    induction q with
    | zero =>
      intro i f hi hf
      refine yes (nI_le (a := 1600) (by omega) (by omega)) (h f (fun a b ha hb => ?_))
      rw [hf a b ha hb]
      unfold fwi
      rw [if_pos (by omega)]
    | succ q ih =>
      intro i f hi hf
      have ha : i / 40 < 40 := by omega
      have hb : i % 40 < 40 := by omega
      have hv : vp_in (nI i) 1600 := vp_in_nI (by omega) (by decide)
      refine nay (nI_ge (b := 1600) (by omega) (by decide)) ?_
      rw [ixA i m (by omega), ixB i m (by omega)]
      refine ⟨vp_in_nI (by omega) (by decide), vp_in_nI (by omega) (by decide), nm ⟨hv, ?_⟩⟩
      rw [waysg, nI_clamp (by omega), nI_clamp (by omega), nI_clamp (by omega), ways2, ways2, nI_1]
      have f1 : f (i / 40 * 40 + m) = nI (W (i / 40) m) := by
        rw [Nat.mul_comm, hf _ _ ha hm]
        unfold fwi
        split
        · rw [rowm _ ha]
        · rfl
      have f2 : f (40 * m + i % 40) = nI (W m (i % 40)) := by
        rw [hf _ _ hm hb]
        unfold fwi
        split
        · rw [colm _ hb]
        · rfl
      have f3 : f i = nI (W (i / 40) (i % 40)) := by
        have := hf _ _ ha hb
        unfold fwi at this
        rw [if_neg (by omega)] at this
        rw [← this]
        congr 1
        omega
      have b1 := (hW.2.1 _ _ ha hm).1
      have b2 := (hW.2.1 _ _ hm hb).1
      have b3 := (hW.2.1 _ _ ha hb).1
      rw [f1, f2, f3, nI_add]
      have nxt : ∀ v, v = fw m W (i / 40) (i % 40) → Rep (upd f i (nI v)) (fwi m (i + 1) W) := by
        intro v hv2 x y hx hy
        by_cases e : 40 * x + y = i
        · have : x = i / 40 := by omega
          have : y = i % 40 := by omega
          subst x
          subst y
          unfold fwi
          rw [if_pos (by omega), e, pk_us, hv2]
        · rw [pk_un e, hf x y hx hy]
          unfold fwi
          by_cases c : 40 * x + y < i
          · rw [if_pos c, if_pos (by omega)]
          · rw [if_neg c, if_neg (by omega)]
      refine bh (fun c => ⟨hv, hv, nm ?_⟩) (fun c => ⟨hv, nm ?_⟩)
      · refine ih (i + 1) _ (by omega) (nxt _ ?_)
        rw [nI_leI (by omega) (by omega)] at c
        unfold fw
        rw [if_neg (by omega)]
      · refine ih (i + 1) _ (by omega) (nxt _ ?_)
        rw [nI_leI (by omega) (by omega)] at c
        unfold fw
        rw [if_pos (by omega)]
  refine ⟨_, go 1600 0 f (by omega) (fun a b ha hb => ?_)⟩
  unfold fwi
  rw [if_neg (by omega)]
  exact hf a b ha hb
theorem work_ok {M : ST} {L : Nat} {post : ST → Prop} (hL : MLane M L) (h : ∀ f d, IsD (Edg M) d → Rep f d → post (ms_ways M f)) : wp_m_work M post := by
  refine w_fill (fun f hf => w_lanes hL hf (fun f W hf hw => ?_))
  have hE : ∀ {u v s}, EdN M L u v s ↔ Edg M u v s := EdN_Edg hL
  have hEE : EdN M L = Edg M := funext fun u => funext fun v => funext fun s => propext hE
  have go : ∀ (q m : Nat) (f : Nat → Int32) (W : Nat → Nat → Nat), m + q = 40 → Rep f W → FW (Edg M) m W → wp_m_work_147 (fun M14 => post M14) post (q + 1) (ms_ways M f) (nI m) := by
    intro q
    induction q with
    | zero =>
      intro m f W hm hf hw
      have : m = 40 := by omega
      subst this
      exact yes (nI_le (Nat.le_refl 40) (by decide)) (h f W (FW_end (GE_Edg M) hw) hf)
    | succ q ih =>
      intro m f W hm hf hw
      refine nay (nI_ge (b := 40) (by omega) (by decide)) (w_pass (by omega) hw hf (fun f' hf' => ?_))
      rw [nI_1]
      exact ih (m + 1) f' _ (by omega) hf' (FW_step (GE_Edg M) (by omega) hw)
  refine ⟨_, go 40 0 f W (by omega) hf ⟨hw.1, fun a b ha hb => ?_, fun b c s e => hw.2.2 b c s (hE.mpr e), fun j a b hj => absurd hj (by omega)⟩⟩
  rw [← hEE]
  exact (hw.2.1 a b ha hb).2
