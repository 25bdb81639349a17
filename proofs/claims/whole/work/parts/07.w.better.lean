/-! PURE: THE TOLD ROUND bettered -/
def sm (f : Nat → Nat) : Nat → Nat
  | 0 => 0
  | k + 1 => sm f k + f k
theorem sm_s (f : Nat → Nat) (k : Nat) : sm f (k + 1) = sm f k + f k := rfl
theorem sm_congr {f g : Nat → Nat} : ∀ n, (∀ i, i < n → f i = g i) → sm f n = sm g n
  | 0, _ => rfl
  | n + 1, h => by
    rw [sm_s, sm_s, sm_congr n (fun i hi => h i (by omega)), h n (by omega)]
theorem sm_add (f : Nat → Nat) (a : Nat) : ∀ b, sm f (a + b) = sm f a + sm (fun k => f (a + k)) b
  | 0 => rfl
  | b + 1 => by
    show sm f (a + b) + f (a + b) = sm f a + (sm (fun k => f (a + k)) b + f (a + b))
    rw [sm_add f a b]
    omega
theorem sm_rev (f : Nat → Nat) : ∀ n, sm (fun k => f (n - 1 - k)) n = sm f n
  | 0 => rfl
  | n + 1 => by
    have e := sm_add (fun k => f (n - k)) 1 n
    have e1 : sm (fun k => f (n - k)) 1 = f n := by
      show 0 + f (n - 0) = f n
      rw [Nat.sub_zero, Nat.zero_add]
    have e2 : sm (fun k => f (n - (1 + k))) n = sm f n := by
      rw [← sm_rev f n]
      exact sm_congr n (fun i hi => by show f _ = f _; congr 1; omega)
    show sm (fun k => f (n - k)) (n + 1) = sm f n + f n
    rw [Nat.add_comm n 1, e, e1, e2]
    omega
theorem lsum_sm (w : Nat → Nat → Nat) (r : Nat → Nat) (n : Nat) : ∀ k, lsum w r n k = sm (fun k => cv (w (r k) (r (nxp n k)))) k
  | 0 => rfl
  | k + 1 => by rw [lsum_s, sm_s, lsum_sm w r n k]
theorem nxp_y {n k : Nat} (h : k + 1 < n) : nxp n k = k + 1 := if_pos h
theorem turn_sum {w : Nat → Nat → Nat} {r : Nat → Nat} {n i j : Nat} (hij : i < j) (hj : j < n) (hs : ∀ a b, a < n → b < n → w (r a) (r b) = w (r b) (r a)) : lsum w (rvF r (i + 1) j) n n + (cv (w (r i) (r (i + 1))) + cv (w (r j) (r (nxp n j)))) = lsum w r n n + (cv (w (r i) (r j)) + cv (w (r (i + 1)) (r (nxp n j)))) := by
  obtain ⟨m, rfl⟩ : ∃ m, j = i + 1 + m := ⟨j - i - 1, by omega⟩
  obtain ⟨q, rfl⟩ : ∃ q, n = i + 1 + m + 1 + q := ⟨n - (i + 1 + m + 1), by omega⟩
  have e : ∀ f : Nat → Nat, sm f (i + 1 + m + 1 + q) = sm f i + f i + sm (fun k => f (i + 1 + k)) m + f (i + 1 + m) + sm (fun k => f (i + 1 + m + 1 + k)) q := by
    intro f
    rw [sm_add f (i + 1 + m + 1) q, sm_s, sm_add f (i + 1) m, sm_s]
  rw [lsum_sm, lsum_sm, e, e]
  generalize hN : i + 1 + m + 1 + q = N at *
  have hNj := nxp_lt hj
  have hnj : nxp N (i + 1 + m) = i + 1 + m + 1 ∨ nxp N (i + 1 + m) = 0 := by unfold nxp; split <;> omega
  have c1 : sm (fun k => cv (w (rvF r (i + 1) (i + 1 + m) k) (rvF r (i + 1) (i + 1 + m) (nxp N k)))) i = sm (fun k => cv (w (r k) (r (nxp N k)))) i := by
    refine sm_congr i (fun k hk => ?_)
    rw [nxp_y (by omega), rvF_out (by omega), rvF_out (by omega)]
  have c2 : sm (fun k => cv (w (rvF r (i + 1) (i + 1 + m) (i + 1 + k)) (rvF r (i + 1) (i + 1 + m) (nxp N (i + 1 + k))))) m = sm (fun k => cv (w (r (i + 1 + k)) (r (nxp N (i + 1 + k))))) m := by
    rw [← sm_rev (fun k => cv (w (r (i + 1 + k)) (r (nxp N (i + 1 + k))))) m]
    refine sm_congr m (fun k hk => ?_)
    show cv _ = cv _
    rw [nxp_y (by omega), nxp_y (by omega), rvF_in (by omega), rvF_in (by omega), hs _ _ (by omega) (by omega)]
    rw [show i + 1 + (i + 1 + m) - (i + 1 + k + 1) = i + 1 + (m - 1 - k) by omega, show i + 1 + (i + 1 + m) - (i + 1 + k) = i + 1 + (m - 1 - k) + 1 by omega]
  have c3 : sm (fun k => cv (w (rvF r (i + 1) (i + 1 + m) (i + 1 + m + 1 + k)) (rvF r (i + 1) (i + 1 + m) (nxp N (i + 1 + m + 1 + k))))) q = sm (fun k => cv (w (r (i + 1 + m + 1 + k)) (r (nxp N (i + 1 + m + 1 + k))))) q := by
    refine sm_congr q (fun k hk => ?_)
    have : nxp N (i + 1 + m + 1 + k) = i + 1 + m + 1 + k + 1 ∨ nxp N (i + 1 + m + 1 + k) = 0 := by unfold nxp; split <;> omega
    rw [rvF_out (by omega), rvF_out (by omega)]
  rw [c1, c2, c3]
  have e1 : rvF r (i + 1) (i + 1 + m) i = r i := rvF_out (by omega)
  have e2 : rvF r (i + 1) (i + 1 + m) (nxp N i) = r (i + 1 + m) := by
    rw [nxp_y (by omega), rvF_in (by omega)]; congr 1; omega
  have e3 : rvF r (i + 1) (i + 1 + m) (i + 1 + m) = r (i + 1) := by
    rw [rvF_in (by omega)]; congr 1; omega
  have e4 : rvF r (i + 1) (i + 1 + m) (nxp N (i + 1 + m)) = r (nxp N (i + 1 + m)) := rvF_out (by omega)
  have e5 : nxp N i = i + 1 := nxp_y (by omega)
  simp only [e1, e2, e3, e4]
  rw [e5]
  omega
/-- a turn that makes it shorter, and keeps TWINS if it did -/
def OT (M : ST) (d : Nat → Nat → Nat) (K T : Nat) (r : Nat → Nat) (i j : Nat) : Prop := lsum (wL M d) (rvF r (i + 1) j) T T < lsum (wL M d) r T T ∧ (KT M d K T r → KT M d K T (rvF r (i + 1) j))
def NT (M : ST) (d : Nat → Nat → Nat) (K T : Nat) (r : Nat → Nat) (a b : Nat) : Prop := ∀ i j, i < j → j < T → (i < a ∨ (i = a ∧ j < b)) → ¬ OT M d K T r i j
def FT (M : ST) (d : Nat → Nat → Nat) (K T : Nat) (r : Nat → Nat) (i j : Nat) : Prop := i < j ∧ j < T ∧ OT M d K T r i j ∧ NT M d K T r i j
theorem FT_u {M : ST} {d : Nat → Nat → Nat} {K T : Nat} {r : Nat → Nat} {i j i' j' : Nat} (h : FT M d K T r i j) (g : FT M d K T r i' j') : i = i' ∧ j = j' := by
  obtain ⟨h1, h2, h3, h4⟩ := h
  obtain ⟨g1, g2, g3, g4⟩ := g
  have a : ¬ (i < i' ∨ (i = i' ∧ j < j')) := fun q => g4 i j h1 h2 q h3
  have b : ¬ (i' < i ∨ (i' = i ∧ j' < j)) := fun q => h4 i' j' g1 g2 q g3
  omega
theorem NT_n {M : ST} {d : Nat → Nat → Nat} {K T : Nat} {r : Nat → Nat} {i j : Nat} (h : NT M d K T r i j) (g : ¬ OT M d K T r i j) : NT M d K T r i (j + 1) := by
  intro a b h1 h2 h3
  by_cases e : a = i ∧ b = j
  · rw [e.1, e.2]; exact g
  · exact h a b h1 h2 (by omega)
theorem NT_r {M : ST} {d : Nat → Nat → Nat} {K T : Nat} {r : Nat → Nat} {i j : Nat} (h : NT M d K T r i j) (hj : T ≤ j) : NT M d K T r (i + 1) (i + 1 + 1) := by
  intro a b h1 h2 h3
  exact h a b h1 h2 (by omega)
theorem NT_ft {M : ST} {d : Nat → Nat → Nat} {K T : Nat} {r : Nat → Nat} {i j a b : Nat} (h : NT M d K T r a b) (ha : T ≤ a) : ¬ FT M d K T r i j := fun q => h i j q.1 q.2.1 (by have := q.1; have := q.2.1; omega) q.2.2.1
/-- the class with a told row, beside a model with the same one -/
def BB (n : Nat) (d : Nat → Nat → Nat) (K T : Nat) (r : Nat → Nat) (X M : ST) : Prop := ∃ g, InvD n d X (ms_round M g) ∧ TK K T r X (ms_round M g) ∧ ¬ x_Lamps_surveyed X = 0
theorem mround2 (M : ST) (f g : Nat → Int32) : ms_round (ms_round M f) g = ms_round M g := sA_sA _ _ _ _
theorem mround1 (M : ST) : ms_round M (m_round M) = M := sA_self M 60
theorem ML.rd {d : Nat → Nat → Nat} {K : Nat} {M : ST} (h : ML d K M) (g : Nat → Int32) : ML d K (ms_round M g) := h
theorem PR.rd {M : ST} {K n : Nat} {r : Nat → Nat} (h : PR M K n r) (g : Nat → Int32) : PR (ms_round M g) K n r := h
theorem BB.sv {n K T : Nat} {d : Nat → Nat → Nat} {r : Nat → Nat} {X X' M : ST} {g : Nat → Int32} (ht : TK K T r X (ms_round M g)) (h : InvD n d X' (ms_round M g)) (s : SV X X') (hs : ¬ x_Lamps_surveyed X' = 0) : BB n d K T r X' M := ⟨g, h, ht.sv s, hs⟩
theorem BB.rev {n K T a b : Nat} {d : Nat → Nat → Nat} {r : Nat → Nat} {X M : ST} {post : ST → Prop} (h : BB n d K T r X M) (hm : ML d K M) (hT : T = cn (lv M) K) (ha : 1 ≤ a) (hab : a ≤ b) (hb : b < T) (hp : ∀ X', BB n d K T (rvF r a b) X' M → post X') : wp_Told_reverse X (nI a) (nI b) post := by
  obtain ⟨g, h1, h2, h3⟩ := h
  refine reverse_ok (fun i hi => (h2.2.2.2.1 i hi).1) h2.1 ha hab hb (fun f hf => hp _ ⟨fun i => nI (rvF r a b i), ?_, ?_, h3⟩)
  · have := h1.told (hm.rd g) h2 ((h2.pr hT).rv hb) hf (g := fun i => nI (rvF r a b i)) (fun i hi => rfl)
    rw [mround2] at this
    exact this
  · have := PR.tk h2 ((h2.pr hT).rv hb) hf (g := fun i => nI (rvF r a b i)) (fun i hi => rfl)
    rw [mround2] at this
    exact this
theorem BB.ext {n K T : Nat} {d : Nat → Nat → Nat} {r r' : Nat → Nat} {X M : ST} (h : BB n d K T r X M) (e : ∀ i, r i = r' i) : BB n d K T r' X M := by
  have : r = r' := funext e
  rw [← this]; exact h
theorem shorter_ok {n K T i j : Nat} {d : Nat → Nat → Nat} {r : Nat → Nat} {X M : ST} {post : Int32 → ST → Prop} (h : BB n d K T r X M) (hm : ML d K M) (hij : i < j) (hj : j < T) (h1 : lsum (wL M d) (rvF r (i + 1) j) T T < lsum (wL M d) r T T → post 1 X) (h0 : ¬ lsum (wL M d) (rvF r (i + 1) j) T T < lsum (wL M d) r T T → post 0 X) : wp_Told_isShorterTurned X (nI i) (nI j) post := by
  have hK := hm.1
  obtain ⟨g, hd, ht, hs⟩ := h
  obtain ⟨t1, t2, t3, t4, t5⟩ := id ht
  have hn2 := nxp_lt hj
  have qi := t4 i (by omega)
  have qi1 := t4 (i + 1) (by omega)
  have qj := t4 j hj
  have qn := t4 _ hn2
  have gp : ∀ a b, a < K → b < K → x_gaps X a b = nI (cv (wL M d a b)) := fun a b ha hb => (ISurv.at hd (hm.rd g) hs ha).1 b hb
  have cl : ∀ a b, a < K → b < K → cv (wL M d a b) ≤ 1000000 := fun a b ha hb => hm.wcv ha hb
  have ts := turn_sum (w := wL M d) (r := r) hij hj (fun a b ha hb => hm.wsy (t4 a ha).2.2.1 (t4 b hb).2.2.1)
  have v : ∀ k, k < 12 → vp_in (nI k) 12 := fun k hk => vp_in_nI hk (by decide)
  unfold wp_Told_isShorterTurned
  rw [nI_1, nI_clamp (show i < 2 ^ 31 by omega), nI_clamp (show i + 1 < 2 ^ 31 by omega), nI_clamp (show j < 2 ^ 31 by omega), qi.1, qi1.1, qj.1]
  refine ⟨v _ (by omega), nm ⟨v _ (by omega), nm ⟨v _ (by omega), nm (after_ok t2 t1 hj ⟨v _ (by omega), ?_⟩)⟩⟩⟩
  rw [nI_clamp (show nxp T j < 2 ^ 31 by omega), qn.1]
  refine nm ?_
  have p1 := qi.2.2.1
  have p2 := qi1.2.2.1
  have p3 := qj.2.2.1
  have p4 := qn.2.2.1
  rw [nI_clamp (show r i < 2 ^ 31 by omega), nI_clamp (show r (i + 1) < 2 ^ 31 by omega), nI_clamp (show r j < 2 ^ 31 by omega), nI_clamp (show r (nxp T j) < 2 ^ 31 by omega), gp _ _ p1 p2, gp _ _ p3 p4, gp _ _ p1 p3, gp _ _ p2 p4, nI_add, nI_add]
  have c1 := cl _ _ p1 p2
  have c2 := cl _ _ p3 p4
  have c3 := cl _ _ p1 p3
  have c4 := cl _ _ p2 p4
  refine ⟨v _ (by omega), v _ (by omega), v _ (by omega), v _ (by omega), v _ (by omega), v _ (by omega), v _ (by omega), v _ (by omega), bh (fun c => h0 ?_) (fun c => h1 ?_)⟩
  · rw [nI_leI (by omega) (by omega)] at c
    omega
  · rw [nI_leI (by omega) (by omega)] at c
    omega
theorem tfs_in {n K T i : Nat} {d : Nat → Nat → Nat} {r : Nat → Nat} {M : ST} {l1 : Int32} {K55 : ST → Prop} {K71 : ST → Int32 → Int32 → Prop} {post : Int32 → ST → Prop} (hm : ML d K M) (hT : T = cn (lv M) K) (hT2 : T ≤ 12) (hl : (l1 = 1 ∧ KT M d K T r) ∨ (l1 = 0 ∧ ¬ KT M d K T r)) (h1 : ∀ X' j, BB n d K T (rvF r (i + 1) j) X' M → FT M d K T r i j → K55 X') (h0 : ∀ X' j, BB n d K T r X' M → T ≤ j → NT M d K T r i j → K71 X' l1 (nI i)) : ∀ (m j : Nat) (X : ST), j + m = T → i < j → BB n d K T r X M → NT M d K T r i j → wp_Told_turnFirstShorter_19 K55 K71 post (m + 1) X l1 (nI i) (nI j) := by
  intro m
  induction m with
  | zero =>
    intro j X hj hij hb hn
    obtain ⟨g, hd, ht, hs⟩ := id hb
    refine yes (by rw [ht.2.1]; exact nI_le (by omega) (by omega)) (h0 X j hb (by omega) hn)
  | succ m ih =>
    intro j X hj hij hb hn
    have hjT : j < T := by omega
    obtain ⟨g, hd, ht, hs⟩ := id hb
    refine nay (by rw [ht.2.1]; exact nI_ge (by omega) (by omega)) ?_
    rw [nI_1, nI_1]
    refine shorter_ok hb hm hij hjT (fun sh => ya2 (hb.rev hm hT (by omega) (by omega) hjT (fun X1 hb1 => ?_))) (fun sh => no2 (ih (j + 1) X (by omega) (by omega) hb (NT_n hn (fun o => sh o.1))))
    rcases hl with ⟨rfl, kt⟩ | ⟨rfl, kt⟩
    · refine ya2 ?_
      obtain ⟨g1, hd1, ht1, hs1⟩ := id hb1
      refine keepsTwins_ok hd1 (hm.rd g1) ht1 hT (fun X2 hd2 sv2 hs2 kt2 => ya2 (h1 X2 j (BB.sv ht1 hd2 sv2 hs2) ⟨hij, hjT, ⟨sh, fun _ => kt2⟩, hn⟩)) (fun X2 hd2 sv2 hs2 kt2 => no2 ((BB.sv ht1 hd2 sv2 hs2).rev hm hT (by omega) (by omega) hjT (fun X3 hb3 => ?_)))
      exact ih (j + 1) X3 (by omega) (by omega) (hb3.ext (fun k => rv_rv)) (NT_n hn (fun o => kt2 (o.2 kt)))
    · exact no2 (h1 X1 j hb1 ⟨hij, hjT, ⟨sh, fun q => absurd q kt⟩, hn⟩)
theorem tfs_ok {n K T : Nat} {d : Nat → Nat → Nat} {r : Nat → Nat} {X M : ST} {post : Int32 → ST → Prop} (hb : BB n d K T r X M) (hm : ML d K M) (hT : T = cn (lv M) K) (h1 : ∀ X' i j, BB n d K T (rvF r (i + 1) j) X' M → FT M d K T r i j → post 1 X') (h0 : ∀ X', BB n d K T r X' M → (∀ i j, ¬ FT M d K T r i j) → post 0 X') : wp_Told_turnFirstShorter X post := by
  have hT2 : T ≤ 12 := by obtain ⟨g, _, ht, _⟩ := hb; exact ht.1
  have go : ∀ (l1 : Int32), ((l1 = 1 ∧ KT M d K T r) ∨ (l1 = 0 ∧ ¬ KT M d K T r)) → ∀ (m i : Nat) (X : ST), i + m = T → BB n d K T r X M → NT M d K T r i (i + 1) → wp_Told_turnFirstShorter_7 (fun X15 => post 1 X15) (fun X16 => post 0 X16) post (m + 1) X l1 (nI i) := by
    intro l1 hl m
    induction m with
    | zero =>
      intro i X hi hb hn
      obtain ⟨g, hd, ht, hs⟩ := id hb
      exact yes (by rw [ht.2.1]; exact nI_le (by omega) (by omega)) (h0 X hb (fun a b => NT_ft hn (by omega)))
    | succ m ih =>
      intro i X hi hb hn
      obtain ⟨g, hd, ht, hs⟩ := id hb
      refine nay (by rw [ht.2.1]; exact nI_ge (by omega) (by omega)) (nm ?_)
      rw [nI_1]
      refine ⟨_, tfs_in hm hT hT2 hl (fun X' j b f => h1 X' i j b f) (fun X' j b hj nt => ?_) (T - (i + 1)) (i + 1) X (by omega) (by omega) hb hn⟩
      show wp_Told_turnFirstShorter_7 _ _ post (m + 1) X' l1 (nI i + 1)
      rw [nI_1]
      exact ih (i + 1) X' (by omega) b (NT_r nt hj)
  obtain ⟨g, hd, ht, hs⟩ := id hb
  have n0 : NT M d K T r 0 (0 + 1) := fun a b h1 h2 h3 => absurd h3 (by omega)
  exact keepsTwins_ok hd (hm.rd g) ht hT (fun X' hd' sv hs' kt => ⟨_, go 1 (Or.inl ⟨rfl, kt⟩) T 0 X' (by omega) (BB.sv ht hd' sv hs') n0⟩) (fun X' hd' sv hs' kt => ⟨_, go 0 (Or.inr ⟨rfl, kt⟩) T 0 X' (by omega) (BB.sv ht hd' sv hs') n0⟩)
/-- turned again and again, k times so far -/
def RB (M : ST) (d : Nat → Nat → Nat) (K T : Nat) : Nat → Nat → (Nat → Nat) → Nat → (Nat → Nat) → Prop
  | 0, k, r, k', r' => k' = k ∧ r' = r
  | m + 1, k, r, k', r' => ((∀ i j, ¬ FT M d K T r i j) ∧ k' = k ∧ r' = r) ∨ ∃ i j, FT M d K T r i j ∧ RB M d K T m (k + 1) (rvF r (i + 1) j) k' r'
theorem RB_u {M : ST} {d : Nat → Nat → Nat} {K T : Nat} : ∀ (m k : Nat) (r : Nat → Nat) (k1 k2 : Nat) (r1 r2 : Nat → Nat), RB M d K T m k r k1 r1 → RB M d K T m k r k2 r2 → k1 = k2 ∧ r1 = r2
  | 0, k, r, k1, k2, r1, r2, h, g => ⟨h.1.trans g.1.symm, h.2.trans g.2.symm⟩
  | m + 1, k, r, k1, k2, r1, r2, h, g => by
    rcases h with ⟨h1, h2, h3⟩ | ⟨i, j, h1, h2⟩
    · rcases g with ⟨g1, g2, g3⟩ | ⟨i', j', g1, g2⟩
      · exact ⟨h2.trans g2.symm, h3.trans g3.symm⟩
      · exact absurd g1 (h1 i' j')
    · rcases g with ⟨g1, g2, g3⟩ | ⟨i', j', g1, g2⟩
      · exact absurd h1 (g1 i j)
      · obtain ⟨rfl, rfl⟩ := FT_u h1 g1
        exact RB_u m _ _ _ _ _ _ h2 g2
theorem xbetter_ok {n K T : Nat} {d : Nat → Nat → Nat} {M : ST} {K52 : ST → Int32 → Prop} {post : Int32 → ST → Prop} (hm : ML d K M) (hT : T = cn (lv M) K) : ∀ (m k : Nat) (X : ST) (r : Nat → Nat), k + m = 100 → BB n d K T r X M → (∀ X' k' r', BB n d K T r' X' M → RB M d K T m k r k' r' → K52 X' (nI k')) → wp_LR_better_30 K52 post (m + 1) X (nI k) := by
  intro m
  induction m with
  | zero =>
    intro k X r hk hb h
    exact yes (nI_le (a := 100) (by omega) (by omega)) (h X k r hb ⟨rfl, rfl⟩)
  | succ m ih =>
    intro k X r hk hb h
    refine nay (nI_ge (b := 100) (by omega) (by decide)) (tfs_ok hb hm hT (fun X' i j b f => ya2 ?_) (fun X' b f => no2 (h X' k r b (Or.inl ⟨f, rfl, rfl⟩))))
    rw [nI_1]
    exact ih (k + 1) X' _ (by omega) b (fun X'' k' r' b' rb => h X'' k' r' b' (Or.inr ⟨i, j, f, rb⟩))
/-- what holds of the model's row -/
def MB (d : Nat → Nat → Nat) (K T : Nat) (r : Nat → Nat) (M : ST) (g : Nat → Int32) : Prop := PR M K T r ∧ (∀ i, i < T → g i = nI (r i)) ∧ ∀ i, i < T → wL M d (r i) (r (nxp T i)) ≠ FARN
theorem mrev_ok {K T a b : Nat} {r : Nat → Nat} {M : ST} {g : Nat → Int32} {post : ST → Prop} (hg : ∀ i, i < T → g i = nI (r i)) (hT : T ≤ 12) (hab : a < b) (hb : b < T) (h : ∀ g', (∀ i, i < T → g' i = nI (rvF r (a + 1) b i)) → post (ms_round M g')) : wp_m_turnRound (ms_round M g) (nI a) (nI b) post := by
  refine mturn_ok (X := ms_round M g) (fun i hi => (show m_round (ms_round M g) i = g i from congrFun (gA_sA M 60 g) i).trans (hg i hi)) hT hab hb (fun f hf => ?_)
  rw [mround2]
  exact h f hf
theorem mbet_in {K T i : Nat} {d : Nat → Nat → Nat} {r : Nat → Nat} {M : ST} {l2 : Int32} {K92 : ST → Prop} {K107 : ST → Int32 → Int32 → Int32 → Prop} {post : Int32 → ST → Prop} (hm : ML d K M) (ht : m_told M = nI T) (hp : PR M K T r) (hf : ∀ i, i < T → wL M d (r i) (r (nxp T i)) ≠ FARN) (hl : (l2 = 1 ∧ KT M d K T r) ∨ (l2 = 0 ∧ ¬ KT M d K T r)) (h1 : ∀ g j, (∀ k, k < T → g k = nI (rvF r (i + 1) j k)) → FT M d K T r i j → K92 (ms_round M g)) (h0 : ∀ g j, (∀ k, k < T → g k = nI (r k)) → T ≤ j → NT M d K T r i j → K107 (ms_round M g) (nI (lsum (wL M d) r T T)) l2 (nI i)) : ∀ (m j : Nat) (g : Nat → Int32), j + m = T → i < j → (∀ k, k < T → g k = nI (r k)) → NT M d K T r i j → wp_m_betters_41 K92 K107 post (m + 1) (ms_round M g) (nI (lsum (wL M d) r T T)) l2 (nI i) (nI j) := by
  have hT := hp.n12 hm.1
  have e : ∀ g, m_told (ms_round M g) = nI T := fun g => ht
  have sm1 := lsum_small hm (fun k hk => (hp.2.1 k hk).1) T (Nat.le_refl _) hf
  intro m
  induction m with
  | zero =>
    intro j g hj hij hg hn
    exact yes (by rw [e]; exact nI_le (by omega) (by omega)) (h0 g j hg (by omega) hn)
  | succ m ih =>
    intro j g hj hij hg hn
    have hjT : j < T := by omega
    have hp2 := hp.rv (a := i + 1) hjT
    have sm2 := lsum_le hm (fun k hk => (hp2.2.1 k hk).1) T (Nat.le_refl _)
    refine nay (by rw [e]; exact nI_ge (by omega) (by omega)) (mrev_ok (K := K) hg hT hij hjT (fun g1 hg1 => ?_))
    have back : ¬ OT M d K T r i j → wp_m_turnRound (ms_round M g1) (nI i) (nI j) (fun M10 => wp_m_betters_41 K92 K107 post (m + 1) M10 (nI (lsum (wL M d) r T T)) l2 (nI i) (nI (j + 1))) := fun no => mrev_ok (K := K) hg1 hT hij hjT (fun g2 hg2 => ih (j + 1) g2 (by omega) (by omega) (fun k hk => by rw [hg2 k hk, rv_rv]) (NT_n hn no))
    have rw1 : ∀ k, k < T → (ms_round M g1).2.2.1 60 k = nI (rvF r (i + 1) j k) := fun k hk => (congrFun (gA_sA M 60 g1) k).trans (hg1 k hk)
    rw [e, nI_1]
    refine lengthOf_ok (hm.rd g1) (fun k hk => ⟨rw1 k hk, (hp2.2.1 k hk).1⟩) hT (fun far => ?_) (fun fin => ?_)
    · obtain ⟨k, hk1, hk2⟩ := far
      have := lsum_far (w := wL M d) hk2 T hk1
      refine yes (nI_le (b := 1000000000) (by omega) (by decide)) (back (fun o => ?_))
      have := o.1
      omega
    · have el : lsum (wL (ms_round M g1) d) (rvF r (i + 1) j) T T = lsum (wL M d) (rvF r (i + 1) j) T T := rfl
      rw [el]
      refine bh (fun c => back (fun o => ?_)) (fun c => ?_)
      · have := (nI_leI (by omega) (by omega)).mp c
        have o1 := o.1
        omega
      · have c : ¬ lsum (wL M d) r T T ≤ lsum (wL M d) (rvF r (i + 1) j) T T := fun z => c (nI_le z (by omega))
        rcases hl with ⟨rfl, kt⟩ | ⟨rfl, kt⟩
        · refine ya2 ?_
          rw [e]
          exact mkeepsTwins_ok (hm.rd g1) (hp2.rd g1) rw1 (fun kt2 => ya2 (h1 g1 j hg1 ⟨hij, hjT, ⟨by omega, fun _ => kt2⟩, hn⟩)) (fun kt2 => no2 (back (fun o => kt2 (o.2 kt))))
        · exact no2 (h1 g1 j hg1 ⟨hij, hjT, ⟨by omega, fun q => absurd q kt⟩, hn⟩)
theorem mbetters_ok {K T : Nat} {d : Nat → Nat → Nat} {r : Nat → Nat} {M : ST} {g : Nat → Int32} {post : Int32 → ST → Prop} (hm : ML d K M) (ht : m_told M = nI T) (hp : PR M K T r) (hg : ∀ k, k < T → g k = nI (r k)) (hf : ∀ i, i < T → wL M d (r i) (r (nxp T i)) ≠ FARN) (h1 : ∀ g i j, (∀ k, k < T → g k = nI (rvF r (i + 1) j k)) → FT M d K T r i j → post 1 (ms_round M g)) (h0 : ∀ g, (∀ k, k < T → g k = nI (r k)) → (∀ i j, ¬ FT M d K T r i j) → post 0 (ms_round M g)) : wp_m_betters (ms_round M g) post := by
  have hT := hp.n12 hm.1
  have e : ∀ g, m_told (ms_round M g) = nI T := fun g => ht
  have go : ∀ (l2 : Int32), ((l2 = 1 ∧ KT M d K T r) ∨ (l2 = 0 ∧ ¬ KT M d K T r)) → ∀ (m i : Nat) (g : Nat → Int32), i + m = T → (∀ k, k < T → g k = nI (r k)) → NT M d K T r i (i + 1) → wp_m_betters_28 (fun M20 => post 1 M20) (fun M21 => post 0 M21) post (m + 1) (ms_round M g) (nI (lsum (wL M d) r T T)) l2 (nI i) := by
    intro l2 hl m
    induction m with
    | zero =>
      intro i g hi hg hn
      exact yes (by rw [e]; exact nI_le (by omega) (by omega)) (h0 g hg (fun a b => NT_ft hn (by omega)))
    | succ m ih =>
      intro i g hi hg hn
      refine nay (by rw [e]; exact nI_ge (by omega) (by omega)) (nm ?_)
      rw [nI_1]
      refine ⟨_, mbet_in hm ht hp hf hl (fun g j b f => h1 g i j b f) (fun g j b hj nt => ?_) (T - (i + 1)) (i + 1) g (by omega) (by omega) hg hn⟩
      show wp_m_betters_28 _ _ post (m + 1) (ms_round M g) (nI (lsum (wL M d) r T T)) l2 (nI i + 1)
      rw [nI_1]
      exact ih (i + 1) g (by omega) b (NT_r nt hj)
  have n0 : NT M d K T r 0 (0 + 1) := fun a b h1 h2 h3 => absurd h3 (by omega)
  have rw1 : ∀ k, k < T → (ms_round M g).2.2.1 60 k = nI (r k) := fun k hk => (congrFun (gA_sA M 60 g) k).trans (hg k hk)
  unfold wp_m_betters
  rw [e]
  refine lengthOf_ok (hm.rd g) (fun k hk => ⟨rw1 k hk, (hp.2.1 k hk).1⟩) hT (fun far => ?_) (fun fin => ?_)
  · obtain ⟨k, hk1, hk2⟩ := far
    exact absurd hk2 (hf k hk1)
  · rw [e]
    exact mkeepsTwins_ok (hm.rd g) (hp.rd g) rw1 (fun kt => ⟨_, go 1 (Or.inl ⟨rfl, kt⟩) T 0 g (by omega) hg n0⟩) (fun kt => ⟨_, go 0 (Or.inr ⟨rfl, kt⟩) T 0 g (by omega) hg n0⟩)
theorem FT_fin {M : ST} {d : Nat → Nat → Nat} {K T i j : Nat} {r : Nat → Nat} (hm : ML d K M) (hp : PR M K T r) (hf : ∀ i, i < T → wL M d (r i) (r (nxp T i)) ≠ FARN) (h : FT M d K T r i j) : ∀ k, k < T → wL M d (rvF r (i + 1) j k) (rvF r (i + 1) j (nxp T k)) ≠ FARN := by
  intro k hk e
  have hT := hp.n12 hm.1
  have sm1 := lsum_small hm (fun k hk => (hp.2.1 k hk).1) T (Nat.le_refl _) hf
  have := lsum_far (w := wL M d) e T hk
  have := h.2.2.1.1
  omega
theorem mbetter_ok {K T : Nat} {d : Nat → Nat → Nat} {M : ST} {K32 : ST → Int32 → Prop} {post : Int32 → ST → Prop} (hm : ML d K M) (ht : m_told M = nI T) : ∀ (m k : Nat) (g : Nat → Int32) (r : Nat → Nat), k + m = 100 → PR M K T r → (∀ k, k < T → g k = nI (r k)) → (∀ i, i < T → wL M d (r i) (r (nxp T i)) ≠ FARN) → (∀ g' k' r', PR M K T r' → (∀ k, k < T → g' k = nI (r' k)) → RB M d K T m k r k' r' → K32 (ms_round M g') (nI k')) → wp_m_better_13 K32 post (m + 1) (ms_round M g) (nI k) := by
  intro m
  induction m with
  | zero =>
    intro k g r hk hp hg hf h
    exact yes (nI_le (a := 100) (by omega) (by omega)) (h g k r hp hg ⟨rfl, rfl⟩)
  | succ m ih =>
    intro k g r hk hp hg hf h
    refine nay (nI_ge (b := 100) (by omega) (by decide)) (mbetters_ok hm ht hp hg hf (fun g' i j b f => ya2 ?_) (fun g' b f => no2 (h g' k r hp b (Or.inl ⟨f, rfl, rfl⟩))))
    rw [nI_1]
    exact ih (k + 1) g' _ (by omega) (hp.rv f.2.1) b (FT_fin hm hp hf f) (fun g'' k' r' p' b' rb => h g'' k' r' p' b' (Or.inr ⟨i, j, f, rb⟩))
theorem mlength_ok {n K T : Nat} {d : Nat → Nat → Nat} {r : Nat → Nat} {X M : ST} {P : Int32 → ST → Prop} (hk : LampK n K X M) (hm : ML d K M) (ht : TK K T r X M) (h0 : ¬ (T = cn (lv M) K ∧ 3 ≤ T) → P (-4) M) (p1 : T = cn (lv M) K → 3 ≤ T → (∃ i, i < T ∧ wL M d (r i) (r (nxp T i)) = FARN) → P (-10) M) (p2 : T = cn (lv M) K → 3 ≤ T → (∀ i, i < T → wL M d (r i) (r (nxp T i)) ≠ FARN) → P (nI (lsum (wL M d) r T T)) M) : wp_m_length M P := by
  have hK := hm.1
  have hT := ht.1
  have hr : ∀ i, i < T → r i < K := fun i hi => (ht.2.2.2.1 i hi).2.2.1
  refine misWhole_ok hk ht (fun z => no1 (h0 z)) (fun q1 q2 => ya1 ?_)
  rw [ht.2.2.1]
  refine lengthOf_ok hm (fun i hi => ⟨(ht.2.2.2.1 i hi).2.1, hr i hi⟩) hT (fun z => yes' rfl (p1 q1 q2 z)) (fun z => nay' (fun y => ?_) (p2 q1 q2 z))
  have sm := lsum_small hm hr T (Nat.le_refl _) z
  have := (nI_eq (b := 1000000000) (by omega) (by decide)).mp y
  omega
theorem ls_better (n : Nat) (X M : ST) (_ : n < 512) (h : Inv n X M) : wp_LR_better X (fun r X1 => wp_m_better M (fun q M1 => r = q ∧ Inv (n + 1) X1 M1)) := by
  have hu := h.up
  obtain ⟨d, hd⟩ := h
  obtain ⟨K, hk, hm⟩ := hd.ml
  have hK := hm.1
  obtain ⟨T, r, ht⟩ := hd.2.2.2.2.2.1.tk hm.2.1 hK
  have hT := ht.1
  have hr : ∀ i, i < T → r i < K := fun i hi => (ht.2.2.2.1 i hi).2.2.1
  have neg : ∀ {A B : Prop} (x : Int32), x < 0 → B → (0 ≤ x → A) ∧ (¬ 0 ≤ x → B) := fun x hx hB => nay (lt_nle.mp hx) hB
  refine isWhole_ok hk ht (fun q => no1 (mlength_ok hk hm ht (fun _ => neg (-4) (by decide) ⟨rfl, hu⟩) (fun a b => absurd ⟨a, b⟩ q) (fun a b => absurd ⟨a, b⟩ q))) (fun q1 q2 => ya1 ?_)
  have pr := ht.pr q1
  refine measure_ok hd hm ht (fun X' hX' sv hs => ?_)
  have hi : Inv (n + 1) X' M := Inv.up ⟨d, hX'⟩
  have le := lsum_le hm hr T (Nat.le_refl _)
  refine bh (fun c => ?_) (fun c => mlength_ok hk hm ht (fun z => absurd ⟨q1, q2⟩ z) (fun _ _ _ => neg (-10) (by decide) ⟨rfl, hi⟩) (fun _ _ z => ?_))
  · have c := (nI_ltI (b := 1000000) (by omega) (by decide)).mp c
    have hb : BB n d K T r X' M := ⟨m_round M, by rw [mround1]; exact hX', by rw [mround1]; exact ht.sv sv, hs⟩
    refine ⟨_, xbetter_ok hm q1 100 0 X' r (by omega) hb (fun X1 k1 r1 b1 rb1 => mlength_ok hk hm ht (fun z => absurd ⟨q1, q2⟩ z) (fun _ _ z => ?_) (fun _ _ z => yes (nI_pos' (by omega)) ?_))⟩
    · obtain ⟨i, z1, z2⟩ := z
      have := lsum_far z2 T z1
      omega
    · have w := mbetter_ok (K32 := fun M5 v6 => nI k1 = v6 ∧ Inv (n + 1) X1 M5) (post := fun q M1 => nI k1 = q ∧ Inv (n + 1) X1 M1) hm ht.2.2.1 100 0 (m_round M) r (by omega) pr (fun i hi => (ht.2.2.2.1 i hi).2.1) z (fun g' k2 r2 p2 b2 rb2 => ?_)
      · rw [mround1] at w
        exact ⟨_, w⟩
      · obtain ⟨rfl, rfl⟩ := RB_u _ _ _ _ _ _ _ rb1 rb2
        refine ⟨rfl, Inv.up ⟨d, ?_⟩⟩
        obtain ⟨g, hd1, ht1, hs1⟩ := b1
        have := hd1.told (hm.rd g) ht1 ((ht1.pr q1)) (f := x_Told_order X1) (fun i hi => (ht1.2.2.2.1 i hi).1) b2
        rw [mround2, show xs_Told_order X1 (x_Told_order X1) = X1 from sA_self X1 27] at this
        exact this
  · have sm := lsum_small hm hr T (Nat.le_refl _) z
    exact absurd ((nI_ltI (b := 1000000) (by omega) (by decide)).mpr (by omega)) c
