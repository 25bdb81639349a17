/-- the WORTH of the first n that aren't OUT -/
def wo (M : ST) : Nat → Nat
  | 0 => 0
  | n + 1 => wo M n + (if m_isOut M n = 0 then (if m_kind M n = 4 then 2 else 1) else 0)
theorem wo_le (M : ST) : ∀ n, wo M n ≤ 2 * n
  | 0 => Nat.le_refl 0
  | n + 1 => by
    have := wo_le M n
    show wo M n + _ ≤ _
    split
    · split <;> omega
    · omega
theorem worth_ok {n K : Nat} {X M : ST} (h : LampK n K X M) {post : Int32 → ST → Prop} (hp : post (nI (wo M K)) X) : wp_Lamps_worthOfLive X post := by
  have hK := h.1
  have go : ∀ (m i : Nat), i + m = K → wp_Lamps_worthOfLive_4 (fun X6 v7 => post v7 X6) post (m + 1) X (nI (wo M i)) (nI i) := by
    intro m
    induction m with
    | zero =>
      intro i hi
      have : i = K := by omega
      subst this
      exact ⟨fun _ => hp, fun c => absurd (by rw [h.2.1]; exact nI_le (Nat.le_refl _) (by omega)) c⟩
    | succ m ih =>
      intro i hi
      have hw : wo M (i + 1) = wo M i + (if m_isOut M i = 0 then (if m_kind M i = 4 then 2 else 1) else 0) := rfl
      have hb := h.2.2.2.2.2 i (by omega)
      have hi1 := ih (i + 1) (by omega)
      rw [hw] at hi1
      refine ⟨fun c => absurd (by rw [h.2.1] at c; exact c) (nI_ge (by omega) (by omega)), fun _ => ?_⟩
      refine isIn_ok (by omega) (fun c => ya2 ?_) (fun c => no2 ?_)
      · rw [hb] at c
        have ho := (of_decide_eq_true c).2
        rw [if_pos ho] at hi1
        refine ⟨vp_in_nI (by omega) (by decide), ?_⟩
        rw [nI_clamp (by omega), (h.2.2.2.1 i (by omega)).2.1]
        refine bn (fun z => nm ?_) (fun z => nm ?_)
        · rw [nI_1, nI_1]
          rw [if_neg z] at hi1
          exact hi1
        · rw [show (2 : Int32) = nI 2 from rfl, nI_add, nI_1]
          rw [if_pos z] at hi1
          exact hi1
      · rw [hb] at c
        have ho : ¬ m_isOut M i = 0 := fun q => (of_decide_eq_false c) ⟨by omega, q⟩
        rw [if_neg ho] at hi1
        rw [nI_1]
        exact hi1
  exact ⟨_, go K 0 (by omega)⟩
theorem mworth_ok {n K : Nat} {X M : ST} (h : LampK n K X M) {post post' : Int32 → ST → Prop} (hp : post (nI (wo M K)) M) : ∃ k, wp_m_many_67 (fun M6 v7 => post v7 M6) post' k M 0 0 := by
  have hK := h.1
  have go : ∀ (m i : Nat), i + m = K → wp_m_many_67 (fun M6 v7 => post v7 M6) post' (m + 1) M (nI (wo M i)) (nI i) := by
    intro m
    induction m with
    | zero =>
      intro i hi
      have : i = K := by omega
      subst this
      exact ⟨fun _ => hp, fun c => absurd (by rw [h.2.2.1]; exact nI_le (Nat.le_refl _) (by omega)) c⟩
    | succ m ih =>
      intro i hi
      have hw : wo M (i + 1) = wo M i + (if m_isOut M i = 0 then (if m_kind M i = 4 then 2 else 1) else 0) := rfl
      have hi1 := ih (i + 1) (by omega)
      rw [hw] at hi1
      have hv : vp_in (nI i) 12 := vp_in_nI (by omega) (by decide)
      refine ⟨fun c => absurd (by rw [h.2.2.1] at c; exact c) (nI_ge (by omega) (by omega)), fun _ => ⟨hv, ?_⟩⟩
      rw [nI_clamp (by omega)]
      refine bh (fun ho => ⟨hv, bn (fun z => nm ?_) (fun z => nm ?_)⟩) (fun ho => nm ?_)
      · rw [if_pos ho, if_neg z] at hi1
        rw [nI_1, nI_1]
        exact hi1
      · rw [if_pos ho, if_pos z] at hi1
        rw [show (2 : Int32) = nI 2 from rfl, nI_add, nI_1]
        exact hi1
      · rw [if_neg ho] at hi1
        rw [nI_zero, nI_1]
        exact hi1
  exact ⟨_, go K 0 (by omega)⟩
theorem ls_many (n : Nat) (X M : ST) (a1 : Int32) (_ : n < 512) (h : Inv n X M) : wp_LR_many X a1 (fun r X1 => wp_m_many M a1 (fun q M1 => r = q ∧ Inv (n + 1) X1 M1)) := by
  have hu := h.up
  obtain ⟨d, h1, h2, h3, h4, h5, h6, h7⟩ := h
  obtain ⟨K, hk⟩ := h4.k
  obtain ⟨L, -, l2, l3, -⟩ := h1
  obtain ⟨T, -, t2, t3, -⟩ := h6
  obtain ⟨P, -, p2, p3, -⟩ := h7
  refine bh (fun e0 => bh (fun _ => ⟨l2.trans l3.symm, hu⟩) (fun k => absurd e0 k)) (fun e0 => bh (fun e1 => bh (fun k => absurd k e0) (fun _ => bh (fun _ => ⟨hk.2.1.trans hk.2.2.1.symm, hu⟩) (fun k => absurd e1 k))) (fun e1 => bh (fun e2 => liveCount_ok hk (bh (fun k => absurd k e0) (fun _ => bh (fun k => absurd k e1) (fun _ => bh (fun _ => lit_ok hk ⟨rfl, hu⟩) (fun k => absurd e2 k))))) (fun e2 => bh (fun e3 => bh (fun k => absurd k e0) (fun _ => bh (fun k => absurd k e1) (fun _ => bh (fun k => absurd k e2) (fun _ => bh (fun _ => ⟨p2.trans p3.symm, hu⟩) (fun k => absurd e3 k))))) (fun e3 => bh (fun e4 => bh (fun k => absurd k e0) (fun _ => bh (fun k => absurd k e1) (fun _ => bh (fun k => absurd k e2) (fun _ => bh (fun k => absurd k e3) (fun _ => bh (fun _ => ⟨t2.trans t3.symm, hu⟩) (fun k => absurd e4 k)))))) (fun e4 => bh (fun e5 => worth_ok hk (bh (fun k => absurd k e0) (fun _ => bh (fun k => absurd k e1) (fun _ => bh (fun k => absurd k e2) (fun _ => bh (fun k => absurd k e3) (fun _ => bh (fun k => absurd k e4) (fun _ => bh (fun _ => mworth_ok hk ⟨rfl, hu⟩) (fun k => absurd e5 k)))))))) (fun e5 => bh (fun k => absurd k e0) (fun _ => bh (fun k => absurd k e1) (fun _ => bh (fun k => absurd k e2) (fun _ => bh (fun k => absurd k e3) (fun _ => bh (fun k => absurd k e4) (fun _ => bh (fun k => absurd k e5) (fun _ => ⟨rfl, hu⟩)))))))))))) 
