/-! PURE: WALKS and WAYS, as such -/
theorem yes {c A B : Prop} (h : c) (ha : A) : (c → A) ∧ (¬ c → B) := ⟨fun _ => ha, fun k => absurd h k⟩
theorem nay {c A B : Prop} (h : ¬ c) (hb : B) : (c → A) ∧ (¬ c → B) := ⟨fun k => absurd k h, fun _ => hb⟩
theorem yes' {c A B : Prop} (h : c) (hb : B) : (¬ c → A) ∧ (c → B) := ⟨fun k => absurd h k, fun _ => hb⟩
theorem nay' {c A B : Prop} (h : ¬ c) (ha : A) : (¬ c → A) ∧ (c → B) := ⟨fun _ => ha, fun k => absurd k h⟩
def GE (E : Nat → Nat → Nat → Prop) : Prop := ∀ u v s, E u v s → E v u s ∧ u < 40 ∧ v < 40 ∧ 1 ≤ s ∧ s ≤ 1000
theorem wlk_snoc {E : Nat → Nat → Nat → Prop} : ∀ (k a b c n s : Nat), Wlk E k a b n → E b c s → Wlk E (k + 1) a c (n + s)
  | 0, a, b, c, n, s, h, e => by
    obtain ⟨rfl, rfl⟩ := h
    exact ⟨c, s, 0, e, by omega, rfl, rfl⟩
  | k + 1, a, b, c, n, s, h, e => by
    obtain ⟨x, t, r, h1, rfl, h2⟩ := h
    exact ⟨x, t, r + s, h1, by omega, wlk_snoc k x b c r s h2 e⟩
theorem wlk_rev {E : Nat → Nat → Nat → Prop} (hE : GE E) : ∀ (k a b n : Nat), Wlk E k a b n → Wlk E k b a n
  | 0, a, b, n, h => ⟨h.1.symm, h.2⟩
  | k + 1, a, b, n, h => by
    obtain ⟨x, t, r, h1, rfl, h2⟩ := h
    have := wlk_snoc k b x a r t (wlk_rev hE k x b r h2) (hE _ _ _ h1).1
    rw [Nat.add_comm t r]
    exact this
theorem wlk_cat {E : Nat → Nat → Nat → Prop} : ∀ (k l a b c n m : Nat), Wlk E k a b n → Wlk E l b c m → Wlk E (k + l) a c (n + m)
  | 0, l, a, b, c, n, m, h, g => by
    obtain ⟨rfl, rfl⟩ := h
    rw [Nat.zero_add, Nat.zero_add]; exact g
  | k + 1, l, a, b, c, n, m, h, g => by
    obtain ⟨x, t, r, h1, rfl, h2⟩ := h
    rw [show k + 1 + l = (k + l) + 1 by omega]
    exact ⟨x, t, r + m, h1, by omega, wlk_cat k l x b c r m h2 g⟩
theorem wlk_in {E : Nat → Nat → Nat → Prop} (hE : GE E) : ∀ (k a b n : Nat), Wlk E k a b n → b < 40 → a < 40
  | 0, a, b, n, h, hb => by rw [h.1]; exact hb
  | k + 1, a, b, n, h, hb => by
    obtain ⟨x, t, r, h1, rfl, h2⟩ := h
    exact (hE _ _ _ h1).2.1
theorem wlk_len {E : Nat → Nat → Nat → Prop} (hE : GE E) : ∀ (k a b n : Nat), Wlk E k a b n → n ≤ 1000 * k
  | 0, a, b, n, h => by rw [h.2]; exact Nat.zero_le _
  | k + 1, a, b, n, h => by
    obtain ⟨x, t, r, h1, rfl, h2⟩ := h
    have := wlk_len hE k x b r h2
    have := (hE _ _ _ h1).2.2.2.2
    omega
theorem d_walk {E : Nat → Nat → Nat → Prop} {d : Nat → Nat → Nat} (hd : IsD E d) {a : Nat} (ha : a < 40) : ∀ (k x b n : Nat), Wlk E k x b n → d a b ≤ d a x + n
  | 0, x, b, n, h => by rw [h.1]; omega
  | k + 1, x, b, n, h => by
    obtain ⟨y, t, r, h1, rfl, h2⟩ := h
    have := d_walk hd ha k y b r h2
    have := hd.2.1 a x y t ha h1
    omega
theorem d_le {E : Nat → Nat → Nat → Prop} {d : Nat → Nat → Nat} (hd : IsD E d) {k a b n : Nat} (ha : a < 40) (h : Wlk E k a b n) : d a b ≤ n := by
  have := d_walk hd ha k a b n h
  rw [hd.1 a ha] at this
  omega
theorem d_sym {E : Nat → Nat → Nat → Prop} {d : Nat → Nat → Nat} (hE : GE E) (hd : IsD E d) {a b : Nat} (ha : a < 40) (hb : b < 40) : d a b = d b a := by
  have go : ∀ a b, a < 40 → b < 40 → d a b ≤ d b a := by
    intro a b ha hb
    rcases (hd.2.2 b a hb ha).2 with h | ⟨k, h⟩
    · rw [h]; exact (hd.2.2 a b ha hb).1
    · exact d_le hd ha (wlk_rev hE _ _ _ _ h)
  exact Nat.le_antisymm (go a b ha hb) (go b a hb ha)
theorem d_uniq {E : Nat → Nat → Nat → Prop} {d d' : Nat → Nat → Nat} (hd : IsD E d) (hd' : IsD E d') {a b : Nat} (ha : a < 40) (hb : b < 40) : d a b = d' a b := by
  have go : ∀ d d', IsD E d → IsD E d' → d a b ≤ d' a b := by
    intro d d' hd hd'
    rcases (hd'.2.2 a b ha hb).2 with h | ⟨k, h⟩
    · rw [h]; exact (hd.2.2 a b ha hb).1
    · exact d_le hd ha h
  exact Nat.le_antisymm (go d d' hd hd') (go d' d hd' hd)
theorem d_tri {E : Nat → Nat → Nat → Prop} {d : Nat → Nat → Nat} (hd : IsD E d) {a b c : Nat} (ha : a < 40) (hb : b < 40) (hc : c < 40) : d a c ≤ d a b + d b c := by
  rcases (hd.2.2 b c hb hc).2 with h | ⟨k, h⟩
  · have := (hd.2.2 a c ha hc).1
    omega
  · exact d_walk hd ha k b c _ h
/-- the first LANE of a shortest WALK -/
theorem d_step {E : Nat → Nat → Nat → Prop} {d : Nat → Nat → Nat} (hE : GE E) (hd : IsD E d) {a b : Nat} (ha : a < 40) (hb : b < 40) (hne : a ≠ b) (hf : d a b ≠ FARN) : ∃ c s, E a c s ∧ c < 40 ∧ s + d c b = d a b := by
  rcases (hd.2.2 a b ha hb).2 with h | ⟨k, h⟩
  · exact absurd h hf
  · match k, h with
    | 0, h => exact absurd h.1 hne
    | k + 1, h =>
      obtain ⟨c, s, r, h1, h2, h3⟩ := h
      have hc := (hE _ _ _ h1).2.2.1
      refine ⟨c, s, h1, hc, ?_⟩
      have e1 := d_le hd hc h3
      have e2 : d a b ≤ s + d c b := by
        rcases (hd.2.2 c b hc hb).2 with q | ⟨l, q⟩
        · have := (hd.2.2 a b ha hb).1
          omega
        · exact d_le hd ha (k := l + 1) ⟨c, s, _, h1, rfl, q⟩
      omega
theorem cn_mono {p q : Nat → Bool} : ∀ n, (∀ i, i < n → p i = true → q i = true) → cn p n ≤ cn q n
  | 0, _ => Nat.le_refl _
  | n + 1, h => by
    have h1 := cn_mono (p := p) (q := q) n (fun i hi => h i (by omega))
    have h2 := h n (by omega)
    show cn p n + (if p n then 1 else 0) ≤ cn q n + (if q n then 1 else 0)
    rcases hp : p n with _ | _
    · simp; omega
    · rw [h2 hp]; simp; omega
theorem cn_strict {p q : Nat → Bool} {j : Nat} : ∀ n, j < n → (∀ i, i < n → p i = true → q i = true) → p j = false → q j = true → cn p n < cn q n
  | 0, hj, _, _, _ => absurd hj (by omega)
  | n + 1, hj, h, hp, hq => by
    show cn p n + (if p n then 1 else 0) < cn q n + (if q n then 1 else 0)
    by_cases e : j = n
    · subst e
      have h1 := cn_mono (p := p) (q := q) j (fun i hi => h i (by omega))
      rw [hp, hq]; simp; omega
    · have h1 := cn_strict (p := p) (q := q) n (by omega) (fun i hi => h i (by omega)) hp hq
      have h2 := h n (by omega)
      rcases hp2 : p n with _ | _
      · simp; omega
      · rw [h2 hp2]; simp; omega
def rk (d : Nat → Nat → Nat) (b v : Nat) : Nat := cn (fun u => decide (d u b < d v b)) 40
theorem rk_lt {d : Nat → Nat → Nat} {b u v : Nat} (hu : u < 40) (h : d u b < d v b) : rk d b u < rk d b v := by
  unfold rk
  refine cn_strict 40 hu (fun i _ hi => ?_) ?_ ?_
  · have := of_decide_eq_true hi
    exact decide_eq_true (by omega)
  · exact decide_eq_false (by omega)
  · exact decide_eq_true h
theorem rk_le {d : Nat → Nat → Nat} {b v : Nat} (hv : v < 40) : rk d b v ≤ 39 := by
  have h1 : rk d b v < cn (fun _ => true) 40 := cn_strict 40 hv (fun i _ _ => rfl) (decide_eq_false (by omega)) rfl
  have h2 := cn_le (fun _ => true) 40
  omega
theorem short {E : Nat → Nat → Nat → Prop} {d : Nat → Nat → Nat} (hE : GE E) (hd : IsD E d) {b : Nat} (hb : b < 40) : ∀ (n v : Nat), v < 40 → d v b ≤ n → d v b ≠ FARN → ∃ k, k ≤ rk d b v ∧ Wlk E k v b (d v b)
  | n, v, hv, hn, hf => by
    by_cases e : v = b
    · subst e
      exact ⟨0, Nat.zero_le _, rfl, hd.1 v hv⟩
    · obtain ⟨c, s, h1, hc, h2⟩ := d_step hE hd hv hb e hf
      have hs := (hE _ _ _ h1).2.2.2.1
      have hl : d c b < d v b := by omega
      have hfc : d c b ≠ FARN := by
        have := (hd.2.2 v b hv hb).1
        omega
      match n, hn with
      | 0, hn => exact absurd hn (by omega)
      | n + 1, hn =>
        obtain ⟨k, k1, k2⟩ := short hE hd hb n c hc (by omega) hfc
        have := rk_lt hc hl
        refine ⟨k + 1, by omega, c, s, d c b, h1, by omega, k2⟩
theorem short39 {E : Nat → Nat → Nat → Prop} {d : Nat → Nat → Nat} (hE : GE E) (hd : IsD E d) {a b : Nat} (ha : a < 40) (hb : b < 40) (hf : d a b ≠ FARN) : ∃ k, k ≤ 39 ∧ Wlk E k a b (d a b) := by
  obtain ⟨k, h1, h2⟩ := short hE hd hb _ a ha (Nat.le_refl _) hf
  exact ⟨k, Nat.le_trans h1 (rk_le ha), h2⟩
theorem d_39000 {E : Nat → Nat → Nat → Prop} {d : Nat → Nat → Nat} (hE : GE E) (hd : IsD E d) {a b : Nat} (ha : a < 40) (hb : b < 40) (hf : d a b ≠ FARN) : d a b ≤ 39000 := by
  obtain ⟨k, h1, h2⟩ := short39 hE hd ha hb hf
  have := wlk_len hE _ _ _ _ h2
  omega
/-- going over one CROSSING more -/
def fw (m : Nat) (W : Nat → Nat → Nat) (a b : Nat) : Nat := if W a m + W m b < W a b then W a m + W m b else W a b
/-- what holds of the WAYS when the first m CROSSINGS have been gone over -/
def FW (E : Nat → Nat → Nat → Prop) (m : Nat) (W : Nat → Nat → Nat) : Prop := (∀ a, a < 40 → W a a = 0) ∧ (∀ a b, a < 40 → b < 40 → W a b ≤ FARN ∧ (W a b = FARN ∨ ∃ k, Wlk E k a b (W a b))) ∧ (∀ b c s, E b c s → W b c ≤ s) ∧ ∀ j a b, j < m → a < 40 → b < 40 → W a b ≤ W a j + W j b
theorem FW_step {E : Nat → Nat → Nat → Prop} (hE : GE E) {m : Nat} {W : Nat → Nat → Nat} (hm : m < 40) (h : FW E m W) : FW E (m + 1) (fw m W) := by
  obtain ⟨h1, h2, h3, h4⟩ := h
  have zm := h1 m hm
  refine ⟨fun a ha => ?_, fun a b ha hb => ?_, fun b c s e => ?_, fun j a b hj ha hb => ?_⟩
  · unfold fw
    rw [h1 a ha, if_neg (by omega)]
  · unfold fw
    split
    · next c =>
      have g1 := (h2 a b ha hb).1
      have g2 := h2 a m ha hm
      have g3 := h2 m b hm hb
      refine ⟨by omega, Or.inr ?_⟩
      rcases g2.2 with q | ⟨k, q⟩
      · omega
      rcases g3.2 with p | ⟨l, p⟩
      · omega
      exact ⟨k + l, wlk_cat _ _ _ _ _ _ _ q p⟩
    · exact h2 a b ha hb
  · have := h3 b c s e
    unfold fw
    split <;> omega
  · unfold fw
    by_cases ej : j = m
    · subst ej
      rw [zm]
      split <;> split <;> split <;> omega
    · have j1 := h4 j a b (by omega) ha hb
      have j2 := h4 j a m (by omega) ha hm
      have j3 := h4 j m b (by omega) hm hb
      have j4 := h4 j m m (by omega) hm hm
      split <;> split <;> split <;> omega
theorem FW_end {E : Nat → Nat → Nat → Prop} (hE : GE E) {W : Nat → Nat → Nat} (h : FW E 40 W) : IsD E W := by
  obtain ⟨h1, h2, h3, h4⟩ := h
  refine ⟨h1, fun a b c s ha e => ?_, h2⟩
  have g := hE _ _ _ e
  have := h4 b a c g.2.1 ha g.2.2.1
  have := h3 b c s e
  omega
