/-! PURE: all ROUNDS are tried; the run -/
def PX (M : ST) (K n : Nat) (e : Nat → Nat) (k : Nat) (p : Nat → Nat) : Prop := 1 ≤ k ∧ k ≤ n ∧ p 0 = e 0 ∧ (∀ i, i < k → p i < K ∧ m_isOut M (p i) = 0) ∧ ∀ i j, i < k → j < k → p i = p j → i = j
def OX (mu ba : Nat → Nat → Bool) (k : Nat) (p : Nat → Nat) : Prop := (∀ i, 1 ≤ i → i + 1 < k → ∀ j, j < 32 → mu (p i) j = true → j = p (i - 1) ∨ j = p (i + 1)) ∧ ∀ i, i + 1 < k → ba (p i) (p (i + 1)) = false
def upn (p : Nat → Nat) (k v : Nat) : Nat → Nat := fun j => if j = k then v else p j
theorem upn_s {p : Nat → Nat} {k v : Nat} : upn p k v k = v := if_pos rfl
theorem upn_n {p : Nat → Nat} {k v j : Nat} (h : j ≠ k) : upn p k v j = p j := if_neg h
theorem PX.rs {M : ST} {d : Nat → Nat → Nat} {K n : Nat} {e p : Nat → Nat} (ev : Ev M d K n e) (h : PX M K n e n p) : RS M K n e p := ⟨⟨ev.2.1, h.2.2.2.1, h.2.2.2.2⟩, h.2.2.1⟩
theorem XP.same {M : ST} {d : Nat → Nat → Nat} {K n : Nat} {e : Nat → Nat} {mu ba : Nat → Nat → Bool} {SH : (Nat → Nat) → Prop} {X0 X : ST} {k kk V kk' V' : Nat} {p : Nat → Nat} (h : XP M d K n e mu ba SH X0 k p kk V X) (hs : ∀ s, VS M K n e kk V s ↔ VS M K n e kk' V' s) : XP M d K n e mu ba SH X0 k p kk' V' X := by
  obtain ⟨h1, h2, B, h3, h4, h5⟩ := h
  exact ⟨h1, h2, B, h3, h4, h5.same hs⟩
theorem extend_ok {M : ST} {d : Nat → Nat → Nat} {K n : Nat} {e : Nat → Nat} {mu ba : Nat → Nat → Bool} {SH : (Nat → Nat) → Prop} {X0 : ST} (ev : Ev M d K n e) (h3 : 3 ≤ n) (hn : n ≤ 8) (hf : ∀ a b, a < K → b < K → m_isOut M a = 0 → m_isOut M b = 0 → wL M d a b ≠ FARN) (se : SE M d K n e mu ba SH X0) : ∀ (m k : Nat), k + m = n → ∀ (X : ST) (p : Nat → Nat) (used : Int32) (post : ST → Prop), PX M K n e k p → OX mu ba k p → XP M d K n e mu ba SH X0 k p k (vl p k) X → (∀ l, l < 12 → (bt used l = true ↔ ∃ i, i < k ∧ p i = l)) → (∀ X', XP M d K n e mu ba SH X0 k p k (vl p k + 1) X' → post X') → wp_Search_extend (m + 1) X (nI k) used (nI (ps M d p (k - 1))) post := by
  have hm := ev.1
  have hK := hm.1
  intro m
  induction m with
  | zero =>
    intro k hkn X p used post px ox xp hu hp
    have : k = n := by omega
    subst this
    refine ⟨fun c => absurd c ?_, fun c => finish_ok hm h3 hn se xp (px.rs ev) ox.1 ox.2 hp⟩
    rw [(se.fs xp.1).1]
    exact nI_nlt (Nat.le_refl _) (by omega)
  | succ m ih =>
    intro k hkn X p used post px ox xp hu hp
    have hk : k < n := by omega
    have k1 := px.1
    have pk : ∀ i, i < k → p i < K := fun i hi => (px.2.2.2.1 i hi).1
    have p16 : ∀ i, i < k → p i < 16 := fun i hi => by have := pk i hi; omega
    have pl := pk (k - 1) (by omega)
    have psb : ∀ q : Nat, q ≤ k - 1 → ps M d p q ≤ 1000000 * q := by
      intro q
      induction q with
      | zero => intro _; exact Nat.le_refl _
      | succ q ihq =>
        intro hq
        have a := ihq (by omega)
        have b := hm.wcv (pk q (by omega)) (pk (q + 1) (by omega))
        have e : ps M d p (q + 1) = ps M d p q + cv (wL M d (p q) (p (q + 1))) := rfl
        omega
    have psk := psb (k - 1) (Nat.le_refl _)
    have loop : ∀ (q i : Nat) (Y : ST), i + q = n → 1 ≤ i → XP M d K n e mu ba SH X0 k p (k + 1) (16 * vl p k + Tn n e i) Y → wp_Search_extend_27 (wp_Search_extend (m + 1)) (fun X13 => post X13) post (q + 1) Y (nI k) used (nI (ps M d p (k - 1))) (nI (p (k - 1))) (nI i) := by
      intro q
      induction q with
      | zero =>
        intro i Y hi h1 hx
        refine yes (by rw [(se.fs hx.1).1]; exact nI_le (by omega) (by omega)) (hp Y (hx.same (fun s => ?_)))
        rw [show Tn n e i = 16 from if_neg (by omega)]
        exact vs_last hK hk s
      | succ q ihq =>
        intro i Y hi h1 hx
        have hi2 : i < n := by omega
        have s := se.fs hx.1
        have ei := ev.2.2.1 i hi2
        have te : Tn n e i = e i := if_pos hi2
        rw [te] at hx
        -- on to the next LAMP when nothing better begins with this one
        have skip : ∀ Z, XP M d K n e mu ba SH X0 k p (k + 1) (16 * vl p k + e i) Z → (∀ B, x_Search_bestLength Z = nI B → B < 2 ^ 31 → ∀ s, RS M K n e s → (∀ j, j < k → s j = p j) → s k = e i → GX n mu ba SH s → B ≤ cst M d n s) → wp_Search_extend_27 (wp_Search_extend (m + 1)) (fun X13 => post X13) post (q + 1) Z (nI k) used (nI (ps M d p (k - 1))) (nI (p (k - 1))) (nI (i + 1)) := by
          intro Z hz hb
          refine ihq (i + 1) Z (by omega) (by omega) ?_
          obtain ⟨z1, z2, B, z3, z4, z5⟩ := hz
          refine ⟨z1, z2, B, z3, z4, z5.ext (fun s q => (vs_next ev hk hi2 p16 s).mp ⟨q.1, by have := q.2; omega⟩) (fun s q1 q2 g => ?_)⟩
          have a := vs_new ev hk hi2 p16 q1 q2
          refine ⟨hb B z4 z3 s q1.1 a.1 a.2 g, by have := cst_le hm q1.1; omega, fun r hr => ?_⟩
          refine Nat.le_of_lt (vl_upn (k := k + 1) ?_ (by omega) (hr.1.d hK))
          have := hr.2
          rw [vl_s s k, vl_congr k a.1, a.2]
          exact this
        refine nay (by rw [s.1]; exact nI_ge hi2 (by omega)) ⟨vp_in_nI (by omega) (by decide), ?_⟩
        rw [nI_clamp (show i < 2 ^ 31 by omega), s.2.1 i hi2]
        refine nm (isIn_ok (by omega) (fun b => ya1 ?_) (fun b => no1 ?_))
        · rw [nI_1]
          obtain ⟨j, hj, ej⟩ := (hu (e i) (by omega)).mp b
          refine skip Y hx (fun B _ _ s rs ag sk g => ?_)
          have := rs.1.2.2 j k (by omega) hk (by rw [ag j hj, sk, ej])
          omega
        · have fresh : ∀ j, j < k → p j ≠ e i := fun j hj z => by
            rw [(hu (e i) (by omega)).mpr ⟨j, hj, z⟩] at b
            exact absurd b (by decide)
          refine follow_ok s hK k1 (by omega) pk hx.2.1 ei.1 (fun f1 f2 => ya2 ?_) (fun f => no2 ?_)
          · obtain ⟨z1, z2, B, z3, z4, z5⟩ := id hx
            have ez : x_Search_order Y (0 : Int32).toNatClampNeg = nI (p 0) := z2 0 (by omega)
            have p0 := pk 0 (by omega)
            have v : ∀ k, k < 12 → vp_in (nI k) 12 := fun k hk => vp_in_nI hk (by decide)
            rw [ez, nI_clamp (show p (k - 1) < 2 ^ 31 by omega), nI_clamp (show e i < 2 ^ 31 by omega), nI_clamp (show p 0 < 2 ^ 31 by omega), s.2.2.1 _ _ pl ei.1, s.2.2.1 _ _ ei.1 p0, nI_add]
            have c1 := hm.wcv pl ei.1
            have c2 := hm.wcv ei.1 p0
            have psn : ps M d (upn p k (e i)) k = ps M d p (k - 1) + cv (wL M d (p (k - 1)) (e i)) := by
              obtain ⟨k', rfl⟩ : ∃ k', k = k' + 1 := ⟨k - 1, by omega⟩
              show ps M d (upn p (k' + 1) (e i)) k' + cv (wL M d (upn p (k' + 1) (e i) k') (upn p (k' + 1) (e i) (k' + 1))) = _
              rw [upn_s, upn_n (show k' ≠ k' + 1 by omega), ps_congr (r := upn p (k' + 1) (e i)) (s := p) (fun i hi => upn_n (by omega))]
              rfl
            refine ⟨v _ (by omega), v _ (by omega), nm ⟨v _ (by omega), vp_in_nI (n := 0) (by omega) (by decide), v _ (by omega), ?_⟩⟩
            rw [z4, nI_add, nI_1]
            refine bh (fun c => skip Y hx (fun B' e1 e2 s' rs ag sk g => ?_)) (fun c => ⟨vp_in_nI (by omega) (by decide), nm ?_⟩)
            · have eB : B' = B := (nI_eq e2 z3).mp (e1.symm.trans z4)
              subst eB
              have c := (nI_leI (by omega) (by omega)).mp c
              obtain ⟨n', rfl⟩ : ∃ n', n = n' + 1 := ⟨n - 1, by omega⟩
              have t := tri_end hm rs.k (fun a b ha hb => hf _ _ (rs.1.2.1 a ha).1 (rs.1.2.1 b hb).1 (rs.1.2.1 a ha).2 (rs.1.2.1 b hb).2) (n' - k) k (by omega)
              rw [ps_congr (r := s') (s := upn p k (e i)) (fun j hj => ?_), psn, sk, ag 0 (by omega)] at t
              · omega
              · by_cases y : j = k
                · subst y; rw [sk, upn_s]
                · rw [ag j (by omega), upn_n y]
            · rw [nI_clamp (show k < 2 ^ 31 by omega), nI_1]
              have vlp : vl (upn p k (e i)) (k + 1) = 16 * vl p k + e i := by
                rw [vl_s, upn_s, vl_congr (r := upn p k (e i)) (s := p) k (fun j hj => upn_n (by omega))]
              have go := ih (k + 1) (by omega) (xs_Search_order Y (upd (x_Search_order Y) k (nI (e i)))) (upn p k (e i)) (used ||| ((1 : Int32) <<< (nI (e i) &&& 31))) (fun X11 => wp_Search_extend_27 (wp_Search_extend (m + 1)) (fun X13 => post X13) post (q + 1) X11 (nI k) used (nI (ps M d p (k - 1))) (nI (p (k - 1))) (nI (i + 1))) ?_ ?_ ?_ ?_ ?_
              · rw [show k + 1 - 1 = k by omega, psn] at go
                exact go
              · refine ⟨by omega, by omega, ?_, fun j hj => ?_, fun j1 j2 h1 h2 ee => ?_⟩
                · rw [upn_n (by omega)]; exact px.2.2.1
                · by_cases y : j = k
                  · subst y; rw [upn_s]; exact ei
                  · rw [upn_n y]; exact px.2.2.2.1 j (by omega)
                · by_cases y1 : j1 = k
                  · by_cases y2 : j2 = k
                    · omega
                    · subst y1
                      rw [upn_s, upn_n y2] at ee
                      exact absurd ee.symm (fresh j2 (by omega))
                  · by_cases y2 : j2 = k
                    · subst y2
                      rw [upn_s, upn_n y1] at ee
                      exact absurd ee (fresh j1 (by omega))
                    · rw [upn_n y1, upn_n y2] at ee
                      exact px.2.2.2.2 j1 j2 (by omega) (by omega) ee
              · constructor
                · intro a a1 a2 j hj mj
                  rw [upn_n (show a ≠ k by omega)] at mj
                  rw [upn_n (show a - 1 ≠ k by omega)]
                  by_cases y : a + 1 = k
                  · rw [y, upn_s]
                    have := f2 (by omega) j hj (by rw [show k - 1 = a by omega]; exact mj)
                    rw [show k - 2 = a - 1 by omega] at this
                    exact this
                  · rw [upn_n y]
                    exact ox.1 a a1 (by omega) j hj mj
                · intro a a2
                  rw [upn_n (show a ≠ k by omega)]
                  by_cases y : a + 1 = k
                  · rw [y, upn_s, show a = k - 1 by omega]; exact f1
                  · rw [upn_n y]; exact ox.2 a (by omega)
              · refine ⟨z1.sA (by decide) _, fun j hj => ?_, B, z3, z4, ?_⟩
                · show upd (x_Search_order Y) k (nI (e i)) j = _
                  by_cases y : j = k
                  · subst y; rw [pk_us, upn_s]
                  · rw [pk_un y, upn_n y]; exact z2 j (by omega)
                · rw [vlp]; exact z5
              · intro l hl
                rw [b_or, b_bit (e i) (by omega) (by omega), Bool.or_eq_true, decide_eq_true_iff, hu l hl]
                constructor
                · rintro (⟨j, hj, ej⟩ | ee)
                  · exact ⟨j, by omega, by rw [upn_n (by omega)]; exact ej⟩
                  · exact ⟨k, by omega, by rw [upn_s]; exact ee.symm⟩
                · rintro ⟨j, hj, ej⟩
                  by_cases y : j = k
                  · subst y; rw [upn_s] at ej; exact Or.inr ej.symm
                  · rw [upn_n y] at ej; exact Or.inl ⟨j, by omega, ej⟩
              · intro Z hz
                rw [vlp] at hz
                have hz2 := hz.same (fun s => vs_next ev hk hi2 p16 s)
                obtain ⟨w1, w2, w3⟩ := hz2
                exact ihq (i + 1) Z (by omega) (by omega) ⟨w1, fun j hj => by rw [w2 j (by omega), upn_n (by omega)], w3⟩
          · rw [nI_1]
            refine skip Y hx (fun B _ _ s rs ag sk g => ?_)
            have nk : nxp n (k - 1) = k := by rw [nxp_y (by omega)]; omega
            rcases f with f | ⟨f1, f2⟩
            · have := g.2.2.1 (k - 1) (by omega)
              rw [nk, ag (k - 1) (by omega), sk, f] at this
              exact absurd this (by decide)
            · refine absurd (fun j hj mj => ?_) f2
              have := g.2.1 (k - 1) (by omega) j hj (by rw [ag (k - 1) (by omega)]; exact mj)
              rw [nk, pvp_p (by omega), sk, show k - 1 - 1 = k - 2 by omega, ag (k - 2) (by omega)] at this
              exact this
    refine ⟨fun c => ⟨?_, ?_⟩, fun c => absurd ?_ c⟩
    · rw [n1 k1]; exact vp_in_nI (by omega) (by decide)
    · rw [n1 k1, nI_clamp (show k - 1 < 2 ^ 31 by omega), xp.2.1 (k - 1) (by omega)]
      exact nm ⟨_, loop (n - 1) 1 X (by omega) (by omega) (xp.same (fun s => vs_first ev k1 hk p16 s))⟩
    · rw [(se.fs xp.1).1]; exact nI_lt hk (by omega)
/-- a ROUND that is asked for, all its WAYS there -/
def GG (M : ST) (d : Nat → Nat → Nat) (n : Nat) (G : (Nat → Nat) → Prop) (s : Nat → Nat) : Prop := (∀ i, i < n → wL M d (s i) (s (nxp n i)) ≠ FARN) ∧ G s
/-- the first of the shortest -/
def Opt (M : ST) (d : Nat → Nat → Nat) (K n : Nat) (e : Nat → Nat) (G : (Nat → Nat) → Prop) (r : Nat → Nat) : Prop := RS M K n e r ∧ G r ∧ ∀ s, RS M K n e s → G s → cst M d n r < cst M d n s ∨ (cst M d n r = cst M d n s ∧ vl r n ≤ vl s n)
theorem Opt_u {M : ST} {d : Nat → Nat → Nat} {K n : Nat} {e : Nat → Nat} {G : (Nat → Nat) → Prop} {r s : Nat → Nat} (hK : K ≤ 12) (h : Opt M d K n e G r) (g : Opt M d K n e G s) : cst M d n r = cst M d n s ∧ ∀ i, i < n → r i = s i := by
  have a := h.2.2 s g.1 g.2.1
  have b := g.2.2 r h.1 h.2.1
  exact ⟨by omega, vl_inj n (h.1.d hK) (g.1.d hK) (by omega)⟩
theorem w0_le {M : ST} {d : Nat → Nat → Nat} {K n : Nat} {s : Nat → Nat} (hm : ML d K M) (hs : ∀ i, i < n → s i < K) (hn : n ≤ 12) (hf : ∀ i, i < n → wL M d (s i) (s (nxp n i)) ≠ FARN) : ∀ k, k + 1 < n → wL M d (s 0) (s (k + 1)) ≤ 39000 * (k + 1)
  | 0, hk => by
    have a := hf 0 (by omega)
    rw [nxp_y hk] at a
    have := hm.w39 (hs 0 (by omega)) (hs 1 (by omega)) a
    exact this
  | k + 1, hk => by
    have b := w0_le hm hs hn hf k (by omega)
    have a := hf (k + 1) (by omega)
    rw [nxp_y hk] at a
    have c := hm.w39 (hs (k + 1) (by omega)) (hs (k + 1 + 1) (by omega)) a
    have t := hm.wtri (hs 0 (by omega)) (hs (k + 1) (by omega)) (hs (k + 1 + 1) (by omega))
    omega
theorem hung_ok {M : ST} {d : Nat → Nat → Nat} {K n : Nat} {e : Nat → Nat} {mu ba : Nat → Nat → Bool} {SH : (Nat → Nat) → Prop} {X : ST} {post : Int32 → ST → Prop} (ev : Ev M d K n e) (hn : n ≤ 8) (h3 : 3 ≤ n) (se : SE M d K n e mu ba SH X) (h1 : (∀ i, 1 ≤ i → i < n → wL M d (e 0) (e i) ≠ FARN) → post 1 X) (h0 : (∃ i, 1 ≤ i ∧ i < n ∧ wL M d (e 0) (e i) = FARN) → post 0 X) : wp_Search_isHungTogether X post := by
  have hm := ev.1
  have hK := hm.1
  have e0 := (ev.2.2.1 0 (by omega)).1
  have go : ∀ (m i : Nat), i + m = n → 1 ≤ i → (∀ j, 1 ≤ j → j < i → wL M d (e 0) (e j) ≠ FARN) → wp_Search_isHungTogether_2 (fun X2 => post 0 X2) (fun X3 => post 1 X3) post (m + 1) X (nI i) := by
    intro m
    induction m with
    | zero =>
      intro i hi h1i hj
      exact yes (by rw [se.1]; exact nI_le (by omega) (by omega)) (h1 (fun j a b => hj j a (by omega)))
    | succ m ih =>
      intro i hi h1i hj
      have ei := (ev.2.2.1 i (by omega)).1
      have ez : x_Search_live X (0 : Int32).toNatClampNeg = nI (e 0) := se.2.1 0 (by omega)
      refine nay (by rw [se.1]; exact nI_ge (by omega) (by omega)) ?_
      rw [ez, nI_clamp (show i < 2 ^ 31 by omega), se.2.1 i (by omega), nI_clamp (show e 0 < 2 ^ 31 by omega), nI_clamp (show e i < 2 ^ 31 by omega), se.2.2.1 _ _ e0 ei, nI_1]
      have cl := hm.wcv e0 ei
      refine ⟨vp_in_nI (n := 0) (by omega) (by decide), vp_in_nI (by omega) (by decide), vp_in_nI (by omega) (by decide), vp_in_nI (by omega) (by decide), bn (fun c => ih (i + 1) (by omega) (by omega) (fun j a b => ?_)) (fun c => h0 ⟨i, h1i, by omega, ?_⟩)⟩
      · by_cases y : j = i
        · subst y
          exact fun z => c (by rw [cv_f z]; rfl)
        · exact hj j a (by omega)
      · rcases Nat.lt_or_ge (wL M d (e 0) (e i)) FARN with z | z
        · have z2 : wL M d (e 0) (e i) ≠ FARN := by omega
          rw [cv_n z2] at c
          have := hm.w39 e0 ei z2
          have := (nI_eq (b := 1000000) (by omega) (by decide)).mp c
          omega
        · have := hm.wle e0 ei
          omega
  exact ⟨_, go (n - 1) 1 (by omega) (by omega) (fun j a b => absurd a (by omega))⟩
theorem run_ok {M : ST} {d : Nat → Nat → Nat} {K n : Nat} {e : Nat → Nat} {mu ba : Nat → Nat → Bool} {SH : (Nat → Nat) → Prop} {X : ST} {post : Int32 → ST → Prop} (ev : Ev M d K n e) (hn : n ≤ 8) (se : SE M d K n e mu ba SH X) (hb : x_Search_bestLength X = 2147483647) (h0 : ∀ X', FS X X' → (n < 3 ∨ ∀ s, RS M K n e s → ¬ GG M d n (GX n mu ba SH) s) → post 0 X') (h1 : ∀ X' r, FS X X' → 3 ≤ n → Opt M d K n e (GG M d n (GX n mu ba SH)) r → x_Search_bestLength X' = nI (cst M d n r) → (∀ i, i < n → x_Search_best X' i = nI (r i)) → post 1 X') : wp_Search_run X post := by
  have hm := ev.1
  have hK := hm.1
  unfold wp_Search_run
  rw [se.1]
  refine bh (fun c => h0 X (Fe.rf X) (Or.inl ((nI_ltI (b := 3) (by omega) (by decide)).mp c))) (fun c => ?_)
  have h3 : 3 ≤ n := by
    rcases Nat.lt_or_ge n 3 with q | q
    · exact absurd (nI_lt (b := 3) q (by decide)) c
    · exact q
  have e0 := ev.2.2.1 0 (by omega)
  refine hung_ok ev hn h3 se (fun hh => ya1 ?_) (fun hh => no1 (h0 X (Fe.rf X) (Or.inr (fun s rs g => ?_))))
  · have hf : ∀ a b, a < K → b < K → m_isOut M a = 0 → m_isOut M b = 0 → wL M d a b ≠ FARN := by
      have near : ∀ a, a < K → m_isOut M a = 0 → wL M d (e 0) a ≤ 39000 := by
        intro a ha oa
        obtain ⟨i, hi, rfl⟩ := ev.2.2.2.2.1 a ha oa
        by_cases y : i = 0
        · subst y
          have : wL M d (e 0) (e 0) = 0 := hm.2.2.2.2.1 _ (hm.cr ha).1
          omega
        · exact hm.w39 e0.1 ha (hh i (by omega) hi)
      intro a b ha hb oa ob
      have t := hm.wtri ha e0.1 hb
      have := near a ha oa
      have := near b hb ob
      rw [hm.wsy ha e0.1] at t
      have : FARN = 1000000000 := rfl
      omega
    have ez : x_Search_live X (0 : Int32).toNatClampNeg = nI (e 0) := se.2.1 0 (by omega)
    refine ⟨vp_in_nI (n := 0) (by omega) (by decide), vp_in_nI (n := 0) (by omega) (by decide), nm ⟨vp_in_nI (n := 0) (by omega) (by decide), n, by omega, ?_⟩⟩
    have ez2 : ∀ f, x_Search_live (xs_Search_order X f) (0 : Int32).toNatClampNeg = nI (e 0) := fun f => ez
    rw [ez2, ez]
    have go := extend_ok ev h3 hn hf se (n - 1) 1 (by omega) (xs_Search_order X (upd (x_Search_order X) (0 : Int32).toNatClampNeg (nI (e 0)))) e ((1 : Int32) <<< (nI (e 0) &&& 31)) (fun X4 => ((x_Search_bestLength X4) = 2147483647 → (post 0 X4)) ∧ (¬ (x_Search_bestLength X4) = 2147483647 → (post 1 X4))) ?_ ?_ ?_ ?_ ?_
    · rw [show n - 1 + 1 = n by omega] at go
      exact go
    · exact ⟨by omega, by omega, rfl, fun i hi => ev.2.2.1 i (by omega), fun i j hi hj _ => by omega⟩
    · exact ⟨fun i a b => absurd b (by omega), fun i b => absurd b (by omega)⟩
    · refine ⟨(Fe.rf X).sA (by decide) _, fun i hi => ?_, 2147483647, by decide, hb, Or.inl ⟨rfl, fun s hs => ?_⟩⟩
      · have : i = 0 := by omega
        subst this
        rfl
      · have a := hs.2
        have b := hs.1.2
        rw [vl_s, vl_s, b] at a
        exact absurd a (Nat.lt_irrefl _)
    · intro l hl
      rw [b_bit (e 0) (by omega) (by omega), decide_eq_true_iff]
      constructor
      · exact fun q => ⟨0, by omega, q.symm⟩
      · rintro ⟨i, hi, q⟩
        have : i = 0 := by omega
        subst this
        exact q.symm
    · intro X' hx
      obtain ⟨fs, ho, B, hB, eB, bs⟩ := hx
      have all : ∀ s, RS M K n e s → VS M K n e 1 (vl e 1 + 1) s := fun s q => ⟨q, by rw [vl_s, vl_s, q.2]; exact Nat.lt_succ_self _⟩
      have fin : ∀ s, RS M K n e s → ∀ i, i < n → wL M d (s i) (s (nxp n i)) ≠ FARN := fun s q i hi => hf _ _ (q.1.2.1 i hi).1 (q.1.2.1 _ (nxp_lt hi)).1 (q.1.2.1 i hi).2 (q.1.2.1 _ (nxp_lt hi)).2
      rw [eB]
      have fs' : FS X X' := fs
      rcases bs with ⟨b1, b2⟩ | ⟨r, b1, b2, b3, b4, b5⟩
      · subst b1
        exact yes rfl (h0 X' fs' (Or.inr (fun s rs g => b2 s (all s rs) g.2)))
      · have cl := cst_le hm b1.1
        refine nay (fun q => ?_) (h1 X' r fs' h3 ⟨b1.1, ⟨fin r b1.1, b2⟩, fun s rs g => b5 s (all s rs) g.2⟩ (by rw [eB, b3]) b4)
        have := (nI_eq (b := 2147483647) hB (by decide)).mp q
        omega
  · obtain ⟨i, i1, i2, i3⟩ := hh
    have ei := ev.2.2.1 i i2
    obtain ⟨k, hk, ek⟩ := rs.1.full ei.1 ei.2
    have := w0_le hm rs.k (by omega) g.1 (k - 1)
    rw [← ek, ← rs.2] at i3
    have k0 : k ≠ 0 := fun z => by
      subst z
      have : e 0 = e i := rs.2.symm.trans ek
      have := ev.2.2.2.1 0 i (by omega) i2
      omega
    have := this (by omega)
    rw [show k - 1 + 1 = k by omega, i3] at this
    have : FARN = 1000000000 := rfl
    omega
