/-! PURE: PRICED pairs as longs -/
def oL (x : Int) : Int64 := Int64.ofInt x
theorem oL_toInt {x : Int} (h1 : -4700000000000000000 ≤ x) (h2 : x ≤ 4700000000000000000) : (oL x).toInt = x := Int64.toInt_ofInt_of_le (by omega) (by omega)
theorem oL_add (x y : Int) : oL x + oL y = oL (x + y) := (Int64.ofInt_add x y).symm
theorem oL_sub (x y : Int) : oL x - oL y = oL (x - y) := (Int64.ofInt_sub x y).symm
theorem oL_mul (x y : Int) : oL x * oL y = oL (x * y) := (Int64.ofInt_mul x y).symm
theorem oL_of (x : Int32) : x.toInt64 = oL x.toInt := by
  have a := Int32.le_toInt x
  have b := Int32.toInt_lt x
  refine Int64.toInt_inj.mp ?_
  rw [Int32.toInt_toInt64, oL_toInt (by omega) (by omega)]
theorem oL_le {x y : Int} (h1 : -4700000000000000000 ≤ x) (h2 : x ≤ 4700000000000000000) (h3 : -4700000000000000000 ≤ y) (h4 : y ≤ 4700000000000000000) : oL x ≤ oL y ↔ x ≤ y := by
  rw [Int64.le_iff_toInt_le, oL_toInt h1 h2, oL_toInt h3 h4]
theorem oL_eq {x y : Int} (h1 : -4700000000000000000 ≤ x) (h2 : x ≤ 4700000000000000000) (h3 : -4700000000000000000 ≤ y) (h4 : y ≤ 4700000000000000000) : oL x = oL y ↔ x = y := by
  rw [← Int64.toInt_inj, oL_toInt h1 h2, oL_toInt h3 h4]
theorem oL_nat {n : Nat} (h : n < 2 ^ 31) : (nI n).toInt64 = oL n := by
  rw [oL_of, nI_toInt h]
theorem oL_and (z : Int) : oL z &&& 255 = oL (z % 256) := by
  refine Int64.toBitVec.inj ?_
  rw [Int64.toBitVec_and]
  show BitVec.ofInt 64 z &&& 255#64 = BitVec.ofInt 64 (z % 256)
  refine BitVec.eq_of_toNat_eq ?_
  rw [BitVec.toNat_and, BitVec.toNat_ofInt, BitVec.toNat_ofInt]
  show _ &&& (2 ^ 8 - 1) = _
  rw [Nat.and_two_pow_sub_one_eq_mod]
  omega
theorem oL_low {z : Int} {c : Nat} (h : z % 256 = c) : (oL z &&& 255).toInt32 = nI c := by
  rw [oL_and, h]
  show (Int64.ofInt _).toInt32 = _
  rw [Int64.toInt32_ofInt]
  rfl
theorem oL_shr {z : Int} (h1 : -4700000000000000000 ≤ z) (h2 : z ≤ 4700000000000000000) : oL z >>> ((8 : Int32).toInt64 &&& 63) = oL (z / 256) := by
  refine Int64.toInt_inj.mp ?_
  rw [oL_toInt (by omega) (by omega)]
  show (oL z >>> ((8 : Int32).toInt64 &&& 63)).toBitVec.toInt = _
  rw [Int64.toBitVec_shiftRight]
  have e8 : (((8 : Int32).toInt64 &&& 63).toBitVec.smod 64).toNat = 8 := by decide +kernel
  show ((oL z).toBitVec.sshiftRight (((8 : Int32).toInt64 &&& 63).toBitVec.smod 64).toNat).toInt = _
  rw [e8, BitVec.toInt_sshiftRight]
  show (oL z).toInt >>> 8 = _
  rw [oL_toInt h1 h2, Int.shiftRight_eq_div_pow]
  rfl
theorem les : ∀ c, c < 256 → ((nI c >>> (4 &&& 31)) &&& 15) = nI (c / 16) := by decide +kernel
theorem gre : ∀ c, c < 256 → (nI c &&& 15) = nI (c % 16) := by decide +kernel
theorem ix16 (a b : Nat) : 16 * nI a + nI b = nI (16 * a + b) := by
  have : (16 : Int32) * nI a = nI (16 * a) := (Int32.ofNat_mul 16 a).symm
  rw [this, nI_add]
theorem ix12 (a b : Nat) : 12 * nI a + nI b = nI (12 * a + b) := by
  have : (12 : Int32) * nI a = nI (12 * a) := (Int32.ofNat_mul 12 a).symm
  rw [this, nI_add]
theorem d12 {k : Nat} (h : k < 2 ^ 31) : nI k / 12 = nI (k / 12) := pk_div (d := 12) h (by decide) (by decide)
theorem r12 {k : Nat} (h : k < 2 ^ 31) : nI k - nI k / 12 * 12 = nI (k % 12) := pk_rem (d := 12) h (by decide) (by decide)
def kcode (k : Nat) : Nat := 16 * (k / 12) + k % 12
theorem kcode_lt {k : Nat} (h : k < 144) : kcode k < 256 := by unfold kcode; omega
theorem kcode_a {k : Nat} : kcode k / 16 = k / 12 := by unfold kcode; omega
theorem kcode_b {k : Nat} : kcode k % 16 = k % 12 := by unfold kcode; omega
def pkU (M : ST) (d : Nat → Nat → Nat) (k : Nat) : Int := if wL M d (k / 12) (k % 12) = FARN then 1099511627776 else pvM M d k
def key (M : ST) (d : Nat → Nat → Nat) (k : Nat) : Int := pkU M d k * 256 + (kcode k : Int)
/-- PRICES are small -/
def PB (M : ST) (K : Nat) : Prop := ∀ l, l < K → -1000000 ≤ (m_price M l).toInt ∧ (m_price M l).toInt ≤ 1000000
theorem LampK.pb {n K : Nat} {X M : ST} (h : LampK n K X M) (hn : n ≤ 600) : PB M K := fun l hl => by
  have := (h.2.2.2.1 l hl).2.2.2.2.2.2.1
  omega
theorem pv_b {M : ST} {d : Nat → Nat → Nat} {K k : Nat} (hm : ML d K M) (hp : PB M K) (h : lpM M K k) (hw : wL M d (k / 12) (k % 12) ≠ FARN) : -2000000 ≤ pvM M d k ∧ pvM M d k ≤ 2039000 := by
  have h1 := h.1
  have h2 := h.2.1
  have a := hp (k / 12) (by omega)
  have b := hp (k % 12) h2
  have c := hm.w39 (show k / 12 < K by omega) h2 hw
  unfold pvM
  omega
theorem key_b {M : ST} {d : Nat → Nat → Nat} {K k : Nat} (hm : ML d K M) (hp : PB M K) (h : lpM M K k) (hk : k < 144) : -1000000000 ≤ key M d k ∧ key M d k ≤ 281474976711000 := by
  have c := kcode_lt hk
  unfold key pkU
  split
  · omega
  · next q => have := pv_b hm hp h q; omega
theorem key_pr {M : ST} {d : Nat → Nat → Nat} {k : Nat} (hk : k < 144) : key M d k / 256 = pkU M d k ∧ key M d k % 256 = kcode k := by
  have c := kcode_lt hk
  unfold key
  omega
theorem key_u {M : ST} {d : Nat → Nat → Nat} {k q : Nat} (hk : k < 144) (hq : q < 144) (e : key M d k = key M d q) : k = q := by
  have a := key_pr (M := M) (d := d) hk
  have b := key_pr (M := M) (d := d) hq
  have a2 := kcode_a (k := k)
  have a3 := kcode_b (k := k)
  have b2 := kcode_a (k := q)
  have b3 := kcode_b (k := q)
  rw [e] at a
  have : kcode k = kcode q := by omega
  rw [this] at a2 a3
  omega
theorem key_ah {M : ST} {d : Nat → Nat → Nat} {k q : Nat} (hk : k < 144) (hq : q < 144) (wk : wL M d (k / 12) (k % 12) ≠ FARN) (wq : wL M d (q / 12) (q % 12) ≠ FARN) (h : key M d k < key M d q) : pvM M d k < pvM M d q ∨ (pvM M d k = pvM M d q ∧ k < q) := by
  have ck := kcode_lt hk
  have cq := kcode_lt hq
  unfold key pkU at h
  rw [if_neg wk, if_neg wq] at h
  have : pvM M d k < pvM M d q ∨ (pvM M d k = pvM M d q ∧ kcode k < kcode q) := by omega
  rcases this with z | z
  · exact Or.inl z
  · refine Or.inr ⟨z.1, ?_⟩
    have := z.2
    unfold kcode at this
    omega
/-! the class's pairs -/
theorem pairAt_ok {X M : ST} {d : Nat → Nat → Nat} {i k : Nat} {post : Int32 → ST → Prop} (hi : i < 66) (hk : k < 144) (e : x_Tree_ranked X i = oL (key M d k)) (h : post (nI (kcode k)) X) : wp_Tree_pairAt X (nI i) post := by
  refine ⟨vp_in_nI hi (by decide), ?_⟩
  rw [nI_clamp (show i < 2 ^ 31 by omega), e, oL_low (key_pr hk).2]
  exact h
theorem lesser_ok {X : ST} {k : Nat} {post : Int32 → ST → Prop} (hk : k < 144) (h : post (nI (k / 12)) X) : wp_LR_lesserOf X (nI (kcode k)) post := by
  unfold wp_LR_lesserOf
  rw [les _ (kcode_lt hk), kcode_a]
  exact h
theorem greater_ok {X : ST} {k : Nat} {post : Int32 → ST → Prop} (hk : k < 144) (h : post (nI (k % 12)) X) : wp_LR_greaterOf X (nI (kcode k)) post := by
  unfold wp_LR_greaterOf
  rw [gre _ (kcode_lt hk), kcode_b]
  exact h
theorem pricedAt_ok {X M : ST} {d : Nat → Nat → Nat} {K i k : Nat} {post : Int64 → ST → Prop} (hm : ML d K M) (hp : PB M K) (hi : i < 66) (hk : k < 144) (lp : lpM M K k) (e : x_Tree_ranked X i = oL (key M d k)) (h : post (oL (pkU M d k)) X) : wp_Tree_pricedAt X (nI i) post := by
  have b := key_b hm hp lp hk
  refine ⟨vp_in_nI hi (by decide), ?_⟩
  rw [nI_clamp (show i < 2 ^ 31 by omega), e, oL_shr (by omega) (by omega), (key_pr hk).1]
  exact h
def XG (d : Nat → Nat → Nat) (K : Nat) (X M : ST) : Prop := ∀ a b, a < K → b < K → x_gaps X a b = nI (cv (wL M d a b))
theorem keyOf_ok {n K k : Nat} {d : Nat → Nat → Nat} {X M : ST} {post : Int64 → ST → Prop} (hk : LampK n K X M) (hm : ML d K M) (hg : XG d K X M) (ha : k / 12 < K) (hb : k % 12 < K) (h : post (oL (key M d k)) X) : wp_Tree_keyOf X (nI (k / 12)) (nI (k % 12)) post := by
  have hK := hm.1
  have v : ∀ k, k < 12 → vp_in (nI k) 12 := fun k hk => vp_in_nI hk (by decide)
  have cl := hm.wcv ha hb
  have pa := (hk.2.2.2.1 _ ha).2.2.1
  have pb := (hk.2.2.2.1 _ hb).2.2.1
  unfold wp_Tree_keyOf wp_LR_pairOf
  rw [nI_clamp (show k / 12 < 2 ^ 31 by omega), nI_clamp (show k % 12 < 2 ^ 31 by omega), hg _ _ ha hb, ix16, pa, pb]
  have ec : (nI (16 * (k / 12) + k % 12)).toInt64 = oL (kcode k : Int) := oL_nat (by omega)
  refine ⟨v _ (by omega), v _ (by omega), bh (fun c => ?_) (fun c => ⟨v _ (by omega), v _ (by omega), v _ (by omega), v _ (by omega), nm ?_⟩)⟩
  · have f : wL M d (k / 12) (k % 12) = FARN := by
      rcases Classical.em (wL M d (k / 12) (k % 12) = FARN) with z | z
      · exact z
      · rw [cv_n z] at c
        have := hm.w39 ha hb z
        have := (nI_eq (b := 1000000) (by omega) (by decide)).mp c
        omega
    have e : (1099511627776 * 256 : Int64) + (nI (16 * (k / 12) + k % 12)).toInt64 = oL (key M d k) := by
      rw [ec]
      have : (1099511627776 * 256 : Int64) = oL (1099511627776 * 256) := by decide +kernel
      rw [this, oL_add]
      unfold key pkU
      rw [if_pos f]
    show post (1099511627776 * 256 + (nI (16 * (k / 12) + k % 12)).toInt64) X
    rw [e]
    exact h
  · have f : wL M d (k / 12) (k % 12) ≠ FARN := fun z => c (by rw [cv_f z]; rfl)
    show post (((nI (cv (wL M d (k / 12) (k % 12)))).toInt64 + (m_price M (k / 12)).toInt64 + (m_price M (k % 12)).toInt64) * 256 + (nI (16 * (k / 12) + k % 12)).toInt64) X
    rw [cv_n f, ec, oL_nat (by have := hm.w39 ha hb f; omega), oL_of, oL_of, oL_add, oL_add]
    have : (256 : Int64) = oL 256 := by decide +kernel
    rw [this, oL_mul, oL_add]
    unfold key pkU at h
    rw [if_neg f] at h
    exact h
theorem firstLive_ok {n K f : Nat} {X M : ST} {post : Int32 → ST → Prop} (hk : LampK n K X M) (hf : isF M K f) (h : post (nI f) X) : wp_Lamps_firstLive X post := by
  have hK := hk.1
  have hfK := hf.1
  have go : ∀ (m i : Nat), i + m = f → wp_Lamps_firstLive_2 (fun X3 v4 => post v4 X3) (fun X5 => post (-1) X5) post (m + 1) X (nI i) := by
    intro m
    induction m with
    | zero =>
      intro i hi
      have : i = f := by omega
      subst this
      refine nay (by rw [hk.2.1]; exact nI_ge (by omega) (by omega)) (isIn_ok (by omega) (fun b => ya2 h) (fun b => ?_))
      rw [hk.2.2.2.2.2 i (by omega), decide_eq_true ⟨hfK, hf.2.1⟩] at b
      exact absurd b (by decide)
    | succ m ih =>
      intro i hi
      refine nay (by rw [hk.2.1]; exact nI_ge (by omega) (by omega)) (isIn_ok (by omega) (fun b => ?_) (fun b => no2 ?_))
      · rw [hk.2.2.2.2.2 i (by omega)] at b
        exact absurd (of_decide_eq_true b).2 (hf.2.2 i (by omega))
      · rw [nI_1]
        exact ih (i + 1) (by omega)
  exact ⟨_, go f 0 (by omega)⟩
theorem isF_ex {M : ST} {K : Nat} (h : 1 ≤ cn (lv M) K) : ∃ f, isF M K f := by
  have a := en_ok (lv M) K 0 h
  refine ⟨en (lv M) K 0, a.1, lv_t.mp a.2.1, fun l hl q => ?_⟩
  have := cn_lt (lv M) hl (lv_t.mpr q)
  omega
