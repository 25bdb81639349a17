/-! PURE: calls that change LANES -/
theorem cross_ok {X : ST} {p : Int32} {post : Int32 → ST → Prop} (h0 : (p < 0 ∨ 40 ≤ p) → post 0 X) (h1 : ∀ j, j < 40 → p = nI j → post 1 X) : wp_LR_isCrossing X p post := by
  refine rg h0 (fun c0 c1 => ?_)
  obtain ⟨j, hj, e, -, -⟩ := vp_of (K := 40) (N := 40) (by decide) (by decide) c0 c1
  exact h1 j hj e
theorem mcross0 {M : ST} {p : Int32} {post : Int32 → ST → Prop} (h : p < 0 ∨ 40 ≤ p) (hp : post 0 M) : wp_m_isCrossing M p post := rg (fun _ => hp) (fun c0 c1 => absurd h (fun q => q.elim c0 c1))
theorem mcross1 {M : ST} {j : Nat} {post : Int32 → ST → Prop} (h : j < 40) (hp : post 1 M) : wp_m_isCrossing M (nI j) post := rg (fun q => q.elim (fun q => absurd q (nI_pos (by omega))) (fun q => absurd q (nI_ge (b := 40) h (by decide)))) (fun _ _ => hp)
theorem nar1 : vp_nar .boolean 1 = 1 := by decide
theorem nar0 : vp_nar .boolean 0 = 0 := by decide
theorem narb {z : Int32} (h : bz z) : vp_nar .boolean z = z := by rcases h with rfl | rfl; exact nar0; exact nar1
theorem afterLanes {n : Nat} {X M : ST} {f : Nat → Int32} {d : Nat → Nat → Nat} (h1 : ILane X M) (h2 : IRow X M) (h4 : ILamp n X M) (h7 : IProof X M) (hd : IsD (Edg M) d) (hr : Rep f d) : Inv (n + 1) (xs_Told_count (xs_Lamps_surveyed (xs_Town_reckoned X 0) 0) 0) (ms_ways (ms_told M 0) f) := by
  refine ⟨d, (h1.fr rfl rfl rfl rfl rfl rfl rfl rfl rfl rfl), (h2.fr rfl rfl rfl rfl rfl rfl), ⟨hd, fun a b ha hb => ?_, fun a ha q => ?_⟩, (h4.up.fr rfl rfl rfl rfl rfl rfl rfl rfl rfl rfl rfl rfl), ⟨Or.inl rfl, fun q => absurd rfl q⟩, ⟨0, by decide, rfl, rfl, fun i hi => absurd hi (by omega), fun i j hi => absurd hi (by omega)⟩, (h7.fr rfl rfl rfl rfl rfl rfl rfl rfl)⟩
  · exact hr a b ha hb
  · exact absurd q (by
      show ¬ (0 : Int64).toBitVec.getLsbD a = true
      rw [show (0 : Int64).toBitVec = 0#64 from rfl, BitVec.getLsbD_zero]
      decide)
theorem isLane_ok {X M : ST} {L : Nat} (hL : L ≤ 100) (hc : x_Town_count X = nI L) {p : Int32} {post : Int32 → ST → Prop} (h0 : (p < 0 ∨ nI L ≤ p) → post 0 X) (h1 : ∀ j, j < L → p = nI j → post 1 X) : wp_Town_isLane X p post := by
  unfold wp_Town_isLane
  rw [hc]
  refine rg h0 (fun c0 c1 => ?_)
  obtain ⟨j, hj, e, -, -⟩ := vp_of hL (by decide) c0 c1
  exact h1 j hj e
theorem misLane0 {M : ST} {L : Nat} (hc : m_lanes M = nI L) {p : Int32} {post : Int32 → ST → Prop} (h : p < 0 ∨ nI L ≤ p) (hp : post 0 M) : wp_m_isLane M p post := by
  unfold wp_m_isLane
  rw [hc]
  exact rg (fun _ => hp) (fun c0 c1 => absurd h (fun q => q.elim c0 c1))
theorem misLane1 {M : ST} {L j : Nat} (hL : L ≤ 100) (hc : m_lanes M = nI L) {post : Int32 → ST → Prop} (h : j < L) (hp : post 1 M) : wp_m_isLane M (nI j) post := by
  unfold wp_m_isLane
  rw [hc]
  exact rg (fun q => q.elim (fun q => absurd q (nI_pos (by omega))) (fun q => absurd q (nI_ge h (by omega)))) (fun _ _ => hp)
theorem ls_open (n : Nat) (X M : ST) (a1 : Int32) (z2 : Int32) (_ : n < 512) (hz : bz z2) (h : Inv n X M) : wp_LR_open X a1 z2 (fun r X1 => wp_m_open M a1 z2 (fun q M1 => r = q ∧ Inv (n + 1) X1 M1)) := by
  have hu := h.up
  obtain ⟨d, h1, h2, h3, h4, h5, h6, h7⟩ := h
  obtain ⟨L, l1, l2, l3, l4⟩ := id h1
  refine isLane_ok (M := M) l1 l2 (fun hb => ⟨fun k => absurd rfl k, fun _ => misLane0 l3 hb ⟨fun k => absurd rfl k, fun _ => ⟨rfl, hu⟩⟩⟩) (fun j hj e => ya1 ?_)
  subst e
  have hv : vp_in (nI j) 100 := vp_in_nI (by omega) (by decide)
  have hc : (nI j).toNatClampNeg = j := nI_clamp (by omega)
  obtain ⟨o1, a, b, s, q1, q2, q3, q4⟩ := l4 j hj
  refine ⟨hv, ?_⟩
  rw [hc, o1.2.2.2]
  refine bn (fun c => ⟨hv, nm (nm (nm (nm (nm (misLane1 l1 l3 hj (ya1 ⟨hv, ?_⟩))))))⟩) (fun c => misLane1 l1 l3 hj (ya1 ⟨hv, ?_⟩))
  · rw [hc]
    refine nay' c ⟨hv, nm (nm ?_)⟩
    rw [narb hz]
    have hl : ILane (xs_Town_isOpen X (upd (x_Town_isOpen X) j z2)) (ms_isOpen M (upd (m_isOpen M) j z2)) := by
      refine ⟨L, l1, l2, l3, fun i hi => ?_⟩
      obtain ⟨⟨p1, p2, p3, p4⟩, a, b, s, q1, q2, q3, q4, q5, q6, q7, q8, q9⟩ := l4 i hi
      refine ⟨⟨p1, p2, p3, ?_⟩, a, b, s, q1, q2, q3, q4, q5, q6, q7, q8, ?_⟩
      · show upd (x_Town_isOpen X) j z2 i = upd (m_isOpen M) j z2 i
        by_cases e : i = j
        · subst e; rw [pk_us, pk_us]
        · rw [pk_un e, pk_un e]; exact p4
      · show bz (upd (m_isOpen M) j z2 i)
        by_cases e : i = j
        · subst e; rw [pk_us]; exact hz
        · rw [pk_un e]; exact q9
    obtain ⟨L', hL'⟩ := hl.m
    refine work_ok (L := L') hL' (fun f d' hd hr => ⟨rfl, ?_⟩)
    exact afterLanes hl (h2.fr rfl rfl rfl rfl rfl rfl) (h4.fr rfl rfl rfl rfl rfl rfl rfl rfl rfl rfl rfl rfl) (h7.fr rfl rfl rfl rfl rfl rfl rfl rfl) hd hr
  · rw [hc]
    exact yes' c ⟨rfl, hu⟩
theorem i64lt {x : Int32} : x.toInt64 < 1 ↔ x < 1 := by
  rw [Int64.lt_iff_toInt_lt, Int32.lt_iff_toInt_lt, Int32.toInt_toInt64]
  exact Iff.rfl
theorem i64gt {x : Int32} : 1000 < x.toInt64 ↔ 1000 < x := by
  rw [Int64.lt_iff_toInt_lt, Int32.lt_iff_toInt_lt, Int32.toInt_toInt64]
  exact Iff.rfl
theorem len_of {x : Int32} (h0 : ¬ x < 1) (h1 : x ≤ 1000) : ∃ s, 1 ≤ s ∧ s ≤ 1000 ∧ x = nI s := by
  have y1 : (1 : Int32).toInt = 1 := rfl
  have y2 : (1000 : Int32).toInt = 1000 := rfl
  have y0 : (0 : Int32).toInt = 0 := rfl
  rw [Int32.lt_iff_toInt_lt] at h0
  obtain ⟨s, hs, e⟩ := nI_of (x := x) (by rw [Int32.lt_iff_toInt_lt]; omega)
  rw [Int32.le_iff_toInt_le] at h1
  have := nI_toInt hs
  rw [← e] at this
  exact ⟨s, by omega, by omega, e⟩
theorem ls_lane (n : Nat) (X M : ST) (a1 a2 a3 : Int32) (_ : n < 512) (h : Inv n X M) : wp_LR_lane X a1 a2 a3 (fun r X1 => wp_m_lane M a1 a2 a3 (fun q M1 => r = q ∧ Inv (n + 1) X1 M1)) := by
  have hu := h.up
  obtain ⟨d, h1, h2, h3, h4, h5, h6, h7⟩ := h
  obtain ⟨L, l1, l2, l3, l4⟩ := id h1
  refine cross_ok (fun hb => no2 (mcross0 hb (no2 ⟨rfl, hu⟩))) (fun a ha e => ya2 ?_)
  subst e
  refine cross_ok (fun hb => no2 (mcross1 ha (ya2 (mcross0 hb (no2 ⟨rfl, hu⟩))))) (fun b hb e => ya2 ?_)
  subst e
  refine bh (fun c => mcross1 ha (ya2 (mcross1 hb (ya2 (yes c ⟨rfl, hu⟩))))) (fun c => ?_)
  have hm : ∀ {P : Prop} {post : Int32 → ST → Prop}, ((a3 < 1 → post (-1) M) ∧ (¬ a3 < 1 → P)) → wp_m_isCrossing M (nI a) (fun r2 M1 => (r2 = 0 → post (-1) M1) ∧ (¬ r2 = 0 → (wp_m_isCrossing M1 (nI b) (fun r4 M3 => (r4 = 0 → post (-1) M3) ∧ (¬ r4 = 0 → ((nI a = nI b → post (-1) M3) ∧ (¬ nI a = nI b → ((a3 < 1 → post (-1) M) ∧ (¬ a3 < 1 → P))))))))) := fun hp => mcross1 ha (ya2 (mcross1 hb (ya2 (nay c hp))))
  refine bh (fun c1 => ya2 (A := False) ?_ |>.2 (by decide) |> fun q => q) (fun c1 => bh (fun c2 => ?_) (fun c2 => ?_))
  · exact ⟨fun k => absurd rfl k, fun _ => mcross1 ha (ya2 (mcross1 hb (ya2 (nay c (yes (i64lt.mp c1) ⟨rfl, hu⟩)))))⟩
  · exact ⟨fun k => absurd rfl k, fun _ => mcross1 ha (ya2 (mcross1 hb (ya2 (nay c (nay (fun q => c1 (i64lt.mpr q)) (nay (fun q => absurd (i64gt.mp c2) (fun z => (lt_nle.mp z) q)) ⟨rfl, hu⟩))))))⟩
  · have c1' : ¬ a3 < 1 := fun q => c1 (i64lt.mpr q)
    have c2' : a3 ≤ 1000 := le_nlt.mpr (fun q => c2 (i64gt.mpr q))
    obtain ⟨s, hs1, hs2, rfl⟩ := len_of c1' c2'
    refine ya1 ?_
    rw [l2]
    refine bh (fun c3 => ?_) (fun c3 => mcross1 ha (ya2 (mcross1 hb (ya2 (nay c (nay c1' (yes c2' (yes' ?_ ⟨rfl, hu⟩))))))))
    · have hL : L < 100 := (nI_ltI (b := 100) (by omega) (by decide)).mp c3
      have hv : vp_in (nI L) 100 := vp_in_nI hL (by decide)
      have hc : (nI L).toNatClampNeg = L := nI_clamp (by omega)
      unfold wp_Town_build
      rw [l2]
      refine nm ⟨hv, nm ⟨hv, nm ⟨hv, nm ⟨hv, nm (nm (nm (nm (nm (nm ?_)))))⟩⟩⟩⟩
      refine mcross1 ha (ya2 (mcross1 hb (ya2 (nay c (nay c1' (yes c2' (nay' (fun q => ?_) ?_)))))))
      · rw [l3] at q
        exact absurd ((nI_eq (b := 100) (by omega) (by decide)).mp q) (by omega)
      · have hv2 : vp_in (m_lanes M) 100 := by rw [l3]; exact hv
        refine ⟨hv2, nm ⟨hv2, nm ⟨hv2, nm ⟨hv2, nm (nm (nm ?_))⟩⟩⟩⟩
        have hl : ILane (xs_Town_count (xs_Town_isOpen (xs_Town_size (xs_Town_to (xs_Town_from X (upd (x_Town_from X) L (nI a))) (upd (x_Town_to X) L (nI b))) (upd (x_Town_size X) L (nI s))) (upd (x_Town_isOpen X) L 1)) (nI L + 1)) (ms_lanes (ms_isOpen (ms_length (ms_to (ms_from M (upd (m_from M) L (nI a))) (upd (m_to M) L (nI b))) (upd (m_length M) L (nI s))) (upd (m_isOpen M) L 1)) (nI L + 1)) := by
          refine ⟨L + 1, hL, nI_1 L, nI_1 L, fun i hi => ?_⟩
          show (upd (x_Town_from X) L (nI a) i = upd (m_from M) L (nI a) i ∧ upd (x_Town_to X) L (nI b) i = upd (m_to M) L (nI b) i ∧ upd (x_Town_size X) L (nI s) i = upd (m_length M) L (nI s) i ∧ upd (x_Town_isOpen X) L 1 i = upd (m_isOpen M) L 1 i) ∧ ∃ a' b' s', upd (m_from M) L (nI a) i = nI a' ∧ upd (m_to M) L (nI b) i = nI b' ∧ upd (m_length M) L (nI s) i = nI s' ∧ a' < 40 ∧ b' < 40 ∧ a' ≠ b' ∧ 1 ≤ s' ∧ s' ≤ 1000 ∧ bz (upd (m_isOpen M) L 1 i)
          by_cases e : i = L
          · subst e
            simp only [pk_us]
            exact ⟨⟨trivial, trivial, trivial, trivial⟩, a, b, s, rfl, rfl, rfl, ha, hb, fun q => c (by rw [q]), hs1, hs2, Or.inr rfl⟩
          · simp only [pk_un e]
            exact l4 i (by omega)
        obtain ⟨L', hL'⟩ := hl.m
        rw [l3, hc, l2, nar1] at *
        refine work_ok (L := L') hL' (fun f d' hd hr => ⟨?_, ?_⟩)
        · show nI L = nI L + 1 - 1
          rw [nI_1, nI_pred]
        · exact afterLanes hl (h2.fr rfl rfl rfl rfl rfl rfl) (h4.fr rfl rfl rfl rfl rfl rfl rfl rfl rfl rfl rfl rfl) (h7.fr rfl rfl rfl rfl rfl rfl rfl rfl) hd hr
    · rw [l3]
      have : ¬ L < 100 := fun q => c3 ((nI_ltI (a := L) (b := 100) (by omega) (by decide)).mpr q)
      rw [show L = 100 by omega]
      rfl
theorem sA_comm (X : ST) {k l : Nat} (h : k ≠ l) (f g : Nat → Int32) : ks_sA (ks_sA X k f) l g = ks_sA (ks_sA X l g) k f := by
  show (X.1, X.2.1, ks_up (ks_up X.2.2.1 k f) l g, X.2.2.2) = (X.1, X.2.1, ks_up (ks_up X.2.2.1 l g) k f, X.2.2.2)
  rw [show ks_up (ks_up X.2.2.1 k f) l g = ks_up (ks_up X.2.2.1 l g) k f from funext fun j => by
    unfold ks_up
    by_cases e : j = k
    · subst e; simp [h]
    · simp [e]]
theorem sub_toInt {a b : Nat} (ha : a < 2 ^ 31) (hb : b < 2 ^ 31) : (nI a - nI b).toInt = (a : Int) - b := by
  rw [Int32.toInt_sub, nI_toInt ha, nI_toInt hb]
  exact Int.bmod_eq_of_le (by omega) (by omega)
abbrev okc (v : Int64) : Prop := ¬ v < 1 ∧ ¬ 1000 < v

theorem okc_len {v : Int64} (h : okc v) : ∃ s, 1 ≤ s ∧ s ≤ 1000 ∧ v.toInt32 = nI s := by
  obtain ⟨h0, h1⟩ := h
  rw [Int64.lt_iff_toInt_lt] at h0 h1
  have y1 : (1 : Int64).toInt = 1 := rfl
  have y2 : (1000 : Int64).toInt = 1000 := rfl
  have y0 : (0 : Int64).toInt = 0 := rfl
  refine ⟨v.toInt.toNat, by omega, by omega, ?_⟩
  apply Int32.toInt_inj.mp
  rw [nI_toInt (by omega), Int64.toInt_toInt32]
  rw [Int.bmod_eq_of_le (by omega) (by omega)]
  omega
def lyS (c : Nat → Int64) (l i : Nat) (f : Nat → Int32) (j : Nat) : Int32 := if l ≤ j ∧ j < l + i ∧ okc (c (j - l)) then (c (j - l)).toInt32 else f j
def lyO (c : Nat → Int64) (l i : Nat) (f : Nat → Int32) (j : Nat) : Int32 := if l ≤ j ∧ j < l + i ∧ ¬ okc (c (j - l)) then 0 else f j
theorem lyS_y {c : Nat → Int64} {l i : Nat} {f : Nat → Int32} (h : okc (c i)) : upd (lyS c l i f) (l + i) (c i).toInt32 = lyS c l (i + 1) f := funext fun j => by
  by_cases e : j = l + i
  · subst e
    rw [pk_us]
    unfold lyS
    have e1 : l + i - l = i := by omega
    rw [e1, if_pos ⟨by omega, by omega, h⟩]
  · rw [pk_un e]
    unfold lyS
    by_cases c1 : l ≤ j ∧ j < l + i ∧ okc (c (j - l))
    · rw [if_pos c1, if_pos ⟨c1.1, by omega, c1.2.2⟩]
    · rw [if_neg c1, if_neg (fun q => c1 ⟨q.1, by omega, q.2.2⟩)]
theorem lyS_n {c : Nat → Int64} {l i : Nat} {f : Nat → Int32} (h : ¬ okc (c i)) : lyS c l i f = lyS c l (i + 1) f := funext fun j => by
  unfold lyS
  by_cases c1 : l ≤ j ∧ j < l + i ∧ okc (c (j - l))
  · rw [if_pos c1, if_pos ⟨c1.1, by omega, c1.2.2⟩]
  · rw [if_neg c1, if_neg (fun q => c1 ⟨q.1, by
      have := q.2.1
      by_cases e : j = l + i
      · subst e
        have e1 : l + i - l = i := by omega
        rw [e1] at q
        exact absurd q.2.2 h
      · omega, q.2.2⟩)]
theorem lyO_y {c : Nat → Int64} {l i : Nat} {f : Nat → Int32} (h : ¬ okc (c i)) : upd (lyO c l i f) (l + i) 0 = lyO c l (i + 1) f := funext fun j => by
  by_cases e : j = l + i
  · subst e
    rw [pk_us]
    unfold lyO
    have e1 : l + i - l = i := by omega
    rw [e1, if_pos ⟨by omega, by omega, h⟩]
  · rw [pk_un e]
    unfold lyO
    by_cases c1 : l ≤ j ∧ j < l + i ∧ ¬ okc (c (j - l))
    · rw [if_pos c1, if_pos ⟨c1.1, by omega, c1.2.2⟩]
    · rw [if_neg c1, if_neg (fun q => c1 ⟨q.1, by omega, q.2.2⟩)]
theorem lyO_n {c : Nat → Int64} {l i : Nat} {f : Nat → Int32} (h : okc (c i)) : lyO c l i f = lyO c l (i + 1) f := funext fun j => by
  unfold lyO
  by_cases c1 : l ≤ j ∧ j < l + i ∧ ¬ okc (c (j - l))
  · rw [if_pos c1, if_pos ⟨c1.1, by omega, c1.2.2⟩]
  · rw [if_neg c1, if_neg (fun q => c1 ⟨q.1, by
      have := q.2.1
      by_cases e : j = l + i
      · subst e
        have e1 : l + i - l = i := by omega
        rw [e1] at q
        exact absurd h q.2.2
      · omega, q.2.2⟩)]
theorem ly0S {c : Nat → Int64} {l : Nat} {f : Nat → Int32} : lyS c l 0 f = f := funext fun j => if_neg (fun q => by omega)
theorem ly0O {c : Nat → Int64} {l : Nat} {f : Nat → Int32} : lyO c l 0 f = f := funext fun j => if_neg (fun q => by omega)
def xLay (X : ST) (c : Nat → Int64) (l i : Nat) : ST := xs_Town_isOpen (xs_Town_size X (lyS c l i (x_Town_size X))) (lyO c l i (x_Town_isOpen X))
def mLay (M : ST) (c : Nat → Int64) (l i : Nat) : ST := ms_isOpen (ms_length M (lyS c l i (m_length M))) (lyO c l i (m_isOpen M))
theorem sA_self (X : ST) (k : Nat) : ks_sA X k (X.2.2.1 k) = X := by
  show (X.1, X.2.1, ks_up X.2.2.1 k (X.2.2.1 k), X.2.2.2) = X
  rw [show ks_up X.2.2.1 k (X.2.2.1 k) = X.2.2.1 from funext fun j => by by_cases e : j = k <;> simp [ks_up, e]]
theorem xLay0 (X : ST) (c : Nat → Int64) (l : Nat) : xLay X c l 0 = X := by
  unfold xLay
  rw [ly0S, ly0O]
  exact (congrArg (fun Y => xs_Town_isOpen Y (x_Town_isOpen X)) (sA_self X _)).trans (sA_self X _)
theorem mLay0 (M : ST) (c : Nat → Int64) (l : Nat) : mLay M c l 0 = M := by
  unfold mLay
  rw [ly0S, ly0O]
  exact (congrArg (fun Y => ms_isOpen Y (m_isOpen M)) (sA_self M _)).trans (sA_self M _)
theorem xLayY {X : ST} {c : Nat → Int64} {l i : Nat} (h : okc (c i)) : xs_Town_size (xLay X c l i) (upd (x_Town_size (xLay X c l i)) (l + i) (c i).toInt32) = xLay X c l (i + 1) := by
  have e : x_Town_size (xLay X c l i) = lyS c l i (x_Town_size X) := rfl
  rw [e, lyS_y h]
  unfold xLay
  rw [← lyO_n h]
  exact (sA_comm _ (by decide) _ _).trans (congrArg (fun Y => ks_sA Y _ _) (sA_sA _ _ _ _))
theorem xLayN {X : ST} {c : Nat → Int64} {l i : Nat} (h : ¬ okc (c i)) : xs_Town_isOpen (xLay X c l i) (upd (x_Town_isOpen (xLay X c l i)) (l + i) 0) = xLay X c l (i + 1) := by
  have e : x_Town_isOpen (xLay X c l i) = lyO c l i (x_Town_isOpen X) := rfl
  rw [e, lyO_y h]
  unfold xLay
  rw [← lyS_n h]
  exact sA_sA _ _ _ _
theorem mLayY {X : ST} {c : Nat → Int64} {l i : Nat} (h : okc (c i)) : ms_length (mLay X c l i) (upd (m_length (mLay X c l i)) (l + i) (c i).toInt32) = mLay X c l (i + 1) := by
  have e : m_length (mLay X c l i) = lyS c l i (m_length X) := rfl
  rw [e, lyS_y h]
  unfold mLay
  rw [← lyO_n h]
  exact (sA_comm _ (by decide) _ _).trans (congrArg (fun Y => ks_sA Y _ _) (sA_sA _ _ _ _))
theorem mLayN {X : ST} {c : Nat → Int64} {l i : Nat} (h : ¬ okc (c i)) : ms_isOpen (mLay X c l i) (upd (m_isOpen (mLay X c l i)) (l + i) 0) = mLay X c l (i + 1) := by
  have e : m_isOpen (mLay X c l i) = lyO c l i (m_isOpen X) := rfl
  rw [e, lyO_y h]
  unfold mLay
  rw [← lyS_n h]
  exact sA_sA _ _ _ _
theorem lay_ok {X : ST} {r ff nn ll : Nat} {c : Nat → Int64} {K : ST → Prop} {post : Int32 → ST → Prop} (hr : r < 4) (hf : ff + nn ≤ 50) (hl : ll + nn ≤ 100) (hc : ∀ i, i < nn → x_cells X r (ff + i) = c i) (h : K (xLay X c ll nn)) : ∃ n, wp_LR_lay_90 K post n X (nI r) (nI ff) (nI nn) (nI ll) 0 := by
  have go : ∀ (m i : Nat), i + m = nn → wp_LR_lay_90 K post (m + 1) (xLay X c ll i) (nI r) (nI ff) (nI nn) (nI ll) (nI i) := by
    intro m
    induction m with
    | zero =>
      intro i hi
      have : i = nn := by omega
      subst this
      exact yes (nI_le (Nat.le_refl _) (by omega)) h
    | succ m ih =>
      intro i hi
      refine nay (nI_ge (by omega) (by omega)) ?_
      rw [nI_add, nI_add, nI_1, nI_clamp (by omega), nI_clamp (by omega)]
      refine ⟨vp_in_nI hr (by decide), vp_in_nI (by omega) (by decide), ?_⟩
      have e : x_cells (xLay X c ll i) r (ff + i) = c i := hc i (by omega)
      rw [e]
      have hv : vp_in (nI (ll + i)) 100 := vp_in_nI (by omega) (by decide)
      have nok : ¬ okc (c i) → vp_in (nI (ll + i)) 100 ∧ ∀ X3 : ST, X3 = xs_Town_isOpen (xLay X c ll i) (upd (x_Town_isOpen (xLay X c ll i)) (nI (ll + i)).toNatClampNeg (vp_nar .boolean 0)) → wp_LR_lay_90 K post (m + 1) X3 (nI r) (nI ff) (nI nn) (nI ll) (nI (i + 1)) := by
        intro hk
        refine ⟨hv, nm ?_⟩
        rw [nI_clamp (by omega), nar0, xLayN hk]
        exact ih (i + 1) (by omega)
      refine bh (fun c1 => no2 (nok (fun q => q.1 c1))) (fun c1 => bh (fun c2 => no2 (nok (fun q => q.2 c2))) (fun c2 => ya2 ⟨hv, nm ?_⟩))
      rw [nI_clamp (by omega), xLayY ⟨c1, c2⟩]
      exact ih (i + 1) (by omega)
  have := go nn 0 (by omega)
  rw [xLay0] at this
  exact ⟨_, this⟩
theorem mlay_ok {M : ST} {r ff nn ll : Nat} {c : Nat → Int64} {K : ST → Prop} {post : Int32 → ST → Prop} (hr : r < 4) (hf : ff + nn ≤ 50) (hl : ll + nn ≤ 100) (hc : ∀ i, i < nn → m_cell M (50 * r + (ff + i)) = c i) (h : K (mLay M c ll nn)) : ∃ n, wp_m_lay_93 K post n M (nI r) (nI ff) (nI nn) (nI ll) 0 := by
  have go : ∀ (m i : Nat), i + m = nn → wp_m_lay_93 K post (m + 1) (mLay M c ll i) (nI r) (nI ff) (nI nn) (nI ll) (nI i) := by
    intro m
    induction m with
    | zero =>
      intro i hi
      have : i = nn := by omega
      subst this
      exact yes (nI_le (Nat.le_refl _) (by omega)) h
    | succ m ih =>
      intro i hi
      refine nay (nI_ge (by omega) (by omega)) ?_
      have ei : (50 : Int32) * nI r + nI ff + nI i = nI (50 * r + (ff + i)) := by
        rw [show (50 : Int32) = nI 50 from rfl, pk_mul, nI_add, nI_add, Nat.add_assoc]
      rw [ei, nI_clamp (by omega)]
      refine ⟨vp_in_nI (by omega) (by decide), nm ?_⟩
      have e : m_cell (mLay M c ll i) (50 * r + (ff + i)) = c i := hc i (by omega)
      rw [e]
      have hv : vp_in (nI ll + nI i) 100 := by rw [nI_add]; exact vp_in_nI (by omega) (by decide)
      have nok : ¬ okc (c i) → wp_m_lay_147 (wp_m_lay_93 K post (m + 1)) post (mLay M c ll i) (nI r) (nI ff) (nI nn) (nI ll) (nI i) := by
        intro hk
        refine ⟨hv, nm ?_⟩
        rw [nI_add, nI_clamp (by omega), nar0, mLayN hk, nI_1]
        exact ih (i + 1) (by omega)
      refine bh (fun c1 => nok (fun q => q.1 c1)) (fun c1 => bh (fun c2 => nok (fun q => q.2 c2)) (fun c2 => ⟨hv, nm ?_⟩))
      rw [nI_add, nI_clamp (by omega), mLayY ⟨c1, c2⟩, nI_1]
      exact ih (i + 1) (by omega)
  have := go nn 0 (by omega)
  rw [mLay0] at this
  exact ⟨_, this⟩
theorem layLane {X M : ST} {c : Nat → Int64} {ll nn : Nat} (h : ILane X M) : ILane (xLay X c ll nn) (mLay M c ll nn) := by
  obtain ⟨L, l1, l2, l3, l4⟩ := h
  refine ⟨L, l1, l2, l3, fun i hi => ?_⟩
  obtain ⟨⟨p1, p2, p3, p4⟩, a, b, s, q1, q2, q3, q4, q5, q6, q7, q8, q9⟩ := l4 i hi
  refine ⟨⟨p1, p2, ?_, ?_⟩, a, b, ?_⟩
  · show lyS c ll nn (x_Town_size X) i = lyS c ll nn (m_length M) i
    unfold lyS
    rw [p3]
  · show lyO c ll nn (x_Town_isOpen X) i = lyO c ll nn (m_isOpen M) i
    unfold lyO
    rw [p4]
  · have ho : bz (lyO c ll nn (m_isOpen M) i) := by
      unfold lyO
      split
      · exact Or.inl rfl
      · exact q9
    have hs : ∃ s, 1 ≤ s ∧ s ≤ 1000 ∧ lyS c ll nn (m_length M) i = nI s := by
      unfold lyS
      split
      · next z => exact okc_len z.2.2
      · exact ⟨s, q7, q8, q3⟩
    obtain ⟨s', z1, z2, z3⟩ := hs
    exact ⟨s', q1, q2, z3, q4, q5, q6, z1, z2, ho⟩
