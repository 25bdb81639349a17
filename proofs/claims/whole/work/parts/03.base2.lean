section JR
variable {κ : Cx} {g : Gx} {own : String} {cc : ByteArray} {Ts : List Cond} {nL : Nat} {rm : Room} {X M : ST} {lv : List (Nat × Value)} {pc pc' : Nat} {st : List Value}
def ahI (g : Gx) (q k n a : Nat) : Prop := (∀ X M : ST, (ww g X M)[q]? = some (a, .inl (g.2.2 0, n, .inl (X.2.2.1 k)))) ∧ ∀ (X M : ST) (f : Nat → Int32), (ww g X M).set q (a, .inl (g.2.2 0, n, .inl f)) = ww g (ks_sA X k f) M
theorem jx_iald {q k n a : Nat} {i : Int32} (hκ : CF κ g own cc Ts nL rm) (ha : ahI g q k n a) (hin : vp_in i n) (hd : decode cc pc = .ok (.iaload, 1)) (ep : pc + 1 = pc') (h : Jw κ g nL X M lv pc' (.int (X.2.2.1 k i.toNatClampNeg) :: st)) : Jw κ g nL X M lv pc (.int i :: .ref a :: st) := by
  obtain ⟨p, l, e, R, s, m, args, below, meth, c, cells, slots, Q, A⟩ := κ
  obtain ⟨hx, hb, hml, hown, hts, hK, hN, hD, hAA, rfl, hc9, hs9, hg⟩ := hκ
  subst ep
  intro H locs ls hP hS hl
  exact va_iald hx hb hK hP q 0 (ha.1 X M) rfl hin hd (h H locs ls hP hS hl)
theorem jx_iast {q k n a : Nat} {i : Int32} {x : Int32} (hκ : CF κ g own cc Ts nL rm) (ha : ahI g q k n a) (hin : vp_in i n) (hd : decode cc pc = .ok (.iastore, 1)) (ep : pc + 1 = pc') (h : Jw κ g nL (ks_sA X k (upd (X.2.2.1 k) i.toNatClampNeg x)) M lv pc' st) : Jw κ g nL X M lv pc (.int x :: .int i :: .ref a :: st) := by
  obtain ⟨p, l, e, R, s, m, args, below, meth, c, cells, slots, Q, A⟩ := κ
  obtain ⟨hx, hb, hml, hown, hts, hK, hN, hD, hAA, rfl, hc9, hs9, hg⟩ := hκ
  subst ep
  intro H locs ls hP hS hl
  exact va_iast hx hb hK hP (hD X M) hS q 0 (ha.1 X M) rfl hin hd (fun H1 locs1 hP1 _ hS1 => h H1 locs1 ls (by rw [← ha.2]; exact hP1) hS1 hl)
theorem jx_alenI {q k n a : Nat} (hκ : CF κ g own cc Ts nL rm) (ha : ahI g q k n a) (hd : decode cc pc = .ok (.arraylength, 1)) (ep : pc + 1 = pc') (h : Jw κ g nL X M lv pc' (.int (Int32.ofNat n) :: st)) : Jw κ g nL X M lv pc (.ref a :: st) := by
  obtain ⟨p, l, e, R, s, m, args, below, meth, c, cells, slots, Q, A⟩ := κ
  obtain ⟨hx, hb, hml, hown, hts, hK, hN, hD, hAA, rfl, hc9, hs9, hg⟩ := hκ
  subst ep
  intro H locs ls hP hS hl
  exact va_alen hx hb hK hP q 0 (ha.1 X M) (ty := .int) rfl rfl hd (h H locs ls hP hS hl)
def ahZ (g : Gx) (q k n a : Nat) : Prop := (∀ X M : ST, (ww g X M)[q]? = some (a, .inl (g.2.2 2, n, .inl (X.2.2.1 k)))) ∧ ∀ (X M : ST) (f : Nat → Int32), (ww g X M).set q (a, .inl (g.2.2 2, n, .inl f)) = ww g (ks_sA X k f) M
theorem jx_zald {q k n a : Nat} {i : Int32} (hκ : CF κ g own cc Ts nL rm) (ha : ahZ g q k n a) (hin : vp_in i n) (hd : decode cc pc = .ok (.baload, 1)) (ep : pc + 1 = pc') (h : Jw κ g nL X M lv pc' (.int (X.2.2.1 k i.toNatClampNeg) :: st)) : Jw κ g nL X M lv pc (.int i :: .ref a :: st) := by
  obtain ⟨p, l, e, R, s, m, args, below, meth, c, cells, slots, Q, A⟩ := κ
  obtain ⟨hx, hb, hml, hown, hts, hK, hN, hD, hAA, rfl, hc9, hs9, hg⟩ := hκ
  subst ep
  intro H locs ls hP hS hl
  exact va_zald hx hb hK hP q 2 (ha.1 X M) rfl hin hd (h H locs ls hP hS hl)
theorem jx_zast {q k n a : Nat} {i : Int32} {x : Int32} (hκ : CF κ g own cc Ts nL rm) (ha : ahZ g q k n a) (hin : vp_in i n) (hd : decode cc pc = .ok (.bastore, 1)) (ep : pc + 1 = pc') (h : Jw κ g nL (ks_sA X k (upd (X.2.2.1 k) i.toNatClampNeg (vp_nar .boolean x))) M lv pc' st) : Jw κ g nL X M lv pc (.int x :: .int i :: .ref a :: st) := by
  obtain ⟨p, l, e, R, s, m, args, below, meth, c, cells, slots, Q, A⟩ := κ
  obtain ⟨hx, hb, hml, hown, hts, hK, hN, hD, hAA, rfl, hc9, hs9, hg⟩ := hκ
  subst ep
  intro H locs ls hP hS hl
  exact va_zast hx hb hK hP (hD X M) hS q 2 (ha.1 X M) rfl hin hd (fun H1 locs1 hP1 _ hS1 => h H1 locs1 ls (by rw [← ha.2]; exact hP1) hS1 hl)
theorem jx_alenZ {q k n a : Nat} (hκ : CF κ g own cc Ts nL rm) (ha : ahZ g q k n a) (hd : decode cc pc = .ok (.arraylength, 1)) (ep : pc + 1 = pc') (h : Jw κ g nL X M lv pc' (.int (Int32.ofNat n) :: st)) : Jw κ g nL X M lv pc (.ref a :: st) := by
  obtain ⟨p, l, e, R, s, m, args, below, meth, c, cells, slots, Q, A⟩ := κ
  obtain ⟨hx, hb, hml, hown, hts, hK, hN, hD, hAA, rfl, hc9, hs9, hg⟩ := hκ
  subst ep
  intro H locs ls hP hS hl
  exact va_alen hx hb hK hP q 2 (ha.1 X M) (ty := .boolean) rfl rfl hd (h H locs ls hP hS hl)
def ahJ (g : Gx) (q k n a : Nat) : Prop := (∀ X M : ST, (ww g X M)[q]? = some (a, .inl (g.2.2 1, n, .inr (.inl (X.2.2.2 k))))) ∧ ∀ (X M : ST) (f : Nat → Int64), (ww g X M).set q (a, .inl (g.2.2 1, n, .inr (.inl f))) = ww g (ks_sB X k f) M
theorem jx_lald {q k n a : Nat} {i : Int32} (hκ : CF κ g own cc Ts nL rm) (ha : ahJ g q k n a) (hin : vp_in i n) (hd : decode cc pc = .ok (.laload, 1)) (ep : pc + 1 = pc') (h : Jw κ g nL X M lv pc' (.long (X.2.2.2 k i.toNatClampNeg) :: st)) : Jw κ g nL X M lv pc (.int i :: .ref a :: st) := by
  obtain ⟨p, l, e, R, s, m, args, below, meth, c, cells, slots, Q, A⟩ := κ
  obtain ⟨hx, hb, hml, hown, hts, hK, hN, hD, hAA, rfl, hc9, hs9, hg⟩ := hκ
  subst ep
  intro H locs ls hP hS hl
  exact va_lald hx hb hK hP q 1 (ha.1 X M) rfl hin hd (h H locs ls hP hS hl)
theorem jx_last {q k n a : Nat} {i : Int32} {x : Int64} (hκ : CF κ g own cc Ts nL rm) (ha : ahJ g q k n a) (hin : vp_in i n) (hd : decode cc pc = .ok (.lastore, 1)) (ep : pc + 1 = pc') (h : Jw κ g nL (ks_sB X k (vp_updL (X.2.2.2 k) i.toNatClampNeg x)) M lv pc' st) : Jw κ g nL X M lv pc (.long x :: .int i :: .ref a :: st) := by
  obtain ⟨p, l, e, R, s, m, args, below, meth, c, cells, slots, Q, A⟩ := κ
  obtain ⟨hx, hb, hml, hown, hts, hK, hN, hD, hAA, rfl, hc9, hs9, hg⟩ := hκ
  subst ep
  intro H locs ls hP hS hl
  exact va_last hx hb hK hP (hD X M) hS q 1 (ha.1 X M) rfl hin hd (fun H1 locs1 hP1 _ hS1 => h H1 locs1 ls (by rw [← ha.2]; exact hP1) hS1 hl)
theorem jx_alenJ {q k n a : Nat} (hκ : CF κ g own cc Ts nL rm) (ha : ahJ g q k n a) (hd : decode cc pc = .ok (.arraylength, 1)) (ep : pc + 1 = pc') (h : Jw κ g nL X M lv pc' (.int (Int32.ofNat n) :: st)) : Jw κ g nL X M lv pc (.ref a :: st) := by
  obtain ⟨p, l, e, R, s, m, args, below, meth, c, cells, slots, Q, A⟩ := κ
  obtain ⟨hx, hb, hml, hown, hts, hK, hN, hD, hAA, rfl, hc9, hs9, hg⟩ := hκ
  subst ep
  intro H locs ls hP hS hl
  exact va_alen hx hb hK hP q 1 (ha.1 X M) (ty := .long) rfl rfl hd (h H locs ls hP hS hl)
def mhI (g : Gx) (q k n a : Nat) : Prop := (∀ X M : ST, (ww g X M)[q]? = some (a, .inl (g.2.2 0, n, .inl (M.2.2.1 k)))) ∧ ∀ (X M : ST) (f : Nat → Int32), (ww g X M).set q (a, .inl (g.2.2 0, n, .inl f)) = ww g X (ks_sA M k f)
theorem jm_iald {q k n a : Nat} {i : Int32} (hκ : CF κ g own cc Ts nL rm) (ha : mhI g q k n a) (hin : vp_in i n) (hd : decode cc pc = .ok (.iaload, 1)) (ep : pc + 1 = pc') (h : Jw κ g nL X M lv pc' (.int (M.2.2.1 k i.toNatClampNeg) :: st)) : Jw κ g nL X M lv pc (.int i :: .ref a :: st) := by
  obtain ⟨p, l, e, R, s, m, args, below, meth, c, cells, slots, Q, A⟩ := κ
  obtain ⟨hx, hb, hml, hown, hts, hK, hN, hD, hAA, rfl, hc9, hs9, hg⟩ := hκ
  subst ep
  intro H locs ls hP hS hl
  exact va_iald hx hb hK hP q 0 (ha.1 X M) rfl hin hd (h H locs ls hP hS hl)
theorem jm_iast {q k n a : Nat} {i : Int32} {x : Int32} (hκ : CF κ g own cc Ts nL rm) (ha : mhI g q k n a) (hin : vp_in i n) (hd : decode cc pc = .ok (.iastore, 1)) (ep : pc + 1 = pc') (h : Jw κ g nL X (ks_sA M k (upd (M.2.2.1 k) i.toNatClampNeg x)) lv pc' st) : Jw κ g nL X M lv pc (.int x :: .int i :: .ref a :: st) := by
  obtain ⟨p, l, e, R, s, m, args, below, meth, c, cells, slots, Q, A⟩ := κ
  obtain ⟨hx, hb, hml, hown, hts, hK, hN, hD, hAA, rfl, hc9, hs9, hg⟩ := hκ
  subst ep
  intro H locs ls hP hS hl
  exact va_iast hx hb hK hP (hD X M) hS q 0 (ha.1 X M) rfl hin hd (fun H1 locs1 hP1 _ hS1 => h H1 locs1 ls (by rw [← ha.2]; exact hP1) hS1 hl)
theorem jm_alenI {q k n a : Nat} (hκ : CF κ g own cc Ts nL rm) (ha : mhI g q k n a) (hd : decode cc pc = .ok (.arraylength, 1)) (ep : pc + 1 = pc') (h : Jw κ g nL X M lv pc' (.int (Int32.ofNat n) :: st)) : Jw κ g nL X M lv pc (.ref a :: st) := by
  obtain ⟨p, l, e, R, s, m, args, below, meth, c, cells, slots, Q, A⟩ := κ
  obtain ⟨hx, hb, hml, hown, hts, hK, hN, hD, hAA, rfl, hc9, hs9, hg⟩ := hκ
  subst ep
  intro H locs ls hP hS hl
  exact va_alen hx hb hK hP q 0 (ha.1 X M) (ty := .int) rfl rfl hd (h H locs ls hP hS hl)
def mhZ (g : Gx) (q k n a : Nat) : Prop := (∀ X M : ST, (ww g X M)[q]? = some (a, .inl (g.2.2 2, n, .inl (M.2.2.1 k)))) ∧ ∀ (X M : ST) (f : Nat → Int32), (ww g X M).set q (a, .inl (g.2.2 2, n, .inl f)) = ww g X (ks_sA M k f)
theorem jm_zald {q k n a : Nat} {i : Int32} (hκ : CF κ g own cc Ts nL rm) (ha : mhZ g q k n a) (hin : vp_in i n) (hd : decode cc pc = .ok (.baload, 1)) (ep : pc + 1 = pc') (h : Jw κ g nL X M lv pc' (.int (M.2.2.1 k i.toNatClampNeg) :: st)) : Jw κ g nL X M lv pc (.int i :: .ref a :: st) := by
  obtain ⟨p, l, e, R, s, m, args, below, meth, c, cells, slots, Q, A⟩ := κ
  obtain ⟨hx, hb, hml, hown, hts, hK, hN, hD, hAA, rfl, hc9, hs9, hg⟩ := hκ
  subst ep
  intro H locs ls hP hS hl
  exact va_zald hx hb hK hP q 2 (ha.1 X M) rfl hin hd (h H locs ls hP hS hl)
theorem jm_zast {q k n a : Nat} {i : Int32} {x : Int32} (hκ : CF κ g own cc Ts nL rm) (ha : mhZ g q k n a) (hin : vp_in i n) (hd : decode cc pc = .ok (.bastore, 1)) (ep : pc + 1 = pc') (h : Jw κ g nL X (ks_sA M k (upd (M.2.2.1 k) i.toNatClampNeg (vp_nar .boolean x))) lv pc' st) : Jw κ g nL X M lv pc (.int x :: .int i :: .ref a :: st) := by
  obtain ⟨p, l, e, R, s, m, args, below, meth, c, cells, slots, Q, A⟩ := κ
  obtain ⟨hx, hb, hml, hown, hts, hK, hN, hD, hAA, rfl, hc9, hs9, hg⟩ := hκ
  subst ep
  intro H locs ls hP hS hl
  exact va_zast hx hb hK hP (hD X M) hS q 2 (ha.1 X M) rfl hin hd (fun H1 locs1 hP1 _ hS1 => h H1 locs1 ls (by rw [← ha.2]; exact hP1) hS1 hl)
theorem jm_alenZ {q k n a : Nat} (hκ : CF κ g own cc Ts nL rm) (ha : mhZ g q k n a) (hd : decode cc pc = .ok (.arraylength, 1)) (ep : pc + 1 = pc') (h : Jw κ g nL X M lv pc' (.int (Int32.ofNat n) :: st)) : Jw κ g nL X M lv pc (.ref a :: st) := by
  obtain ⟨p, l, e, R, s, m, args, below, meth, c, cells, slots, Q, A⟩ := κ
  obtain ⟨hx, hb, hml, hown, hts, hK, hN, hD, hAA, rfl, hc9, hs9, hg⟩ := hκ
  subst ep
  intro H locs ls hP hS hl
  exact va_alen hx hb hK hP q 2 (ha.1 X M) (ty := .boolean) rfl rfl hd (h H locs ls hP hS hl)
def mhJ (g : Gx) (q k n a : Nat) : Prop := (∀ X M : ST, (ww g X M)[q]? = some (a, .inl (g.2.2 1, n, .inr (.inl (M.2.2.2 k))))) ∧ ∀ (X M : ST) (f : Nat → Int64), (ww g X M).set q (a, .inl (g.2.2 1, n, .inr (.inl f))) = ww g X (ks_sB M k f)
theorem jm_lald {q k n a : Nat} {i : Int32} (hκ : CF κ g own cc Ts nL rm) (ha : mhJ g q k n a) (hin : vp_in i n) (hd : decode cc pc = .ok (.laload, 1)) (ep : pc + 1 = pc') (h : Jw κ g nL X M lv pc' (.long (M.2.2.2 k i.toNatClampNeg) :: st)) : Jw κ g nL X M lv pc (.int i :: .ref a :: st) := by
  obtain ⟨p, l, e, R, s, m, args, below, meth, c, cells, slots, Q, A⟩ := κ
  obtain ⟨hx, hb, hml, hown, hts, hK, hN, hD, hAA, rfl, hc9, hs9, hg⟩ := hκ
  subst ep
  intro H locs ls hP hS hl
  exact va_lald hx hb hK hP q 1 (ha.1 X M) rfl hin hd (h H locs ls hP hS hl)
theorem jm_last {q k n a : Nat} {i : Int32} {x : Int64} (hκ : CF κ g own cc Ts nL rm) (ha : mhJ g q k n a) (hin : vp_in i n) (hd : decode cc pc = .ok (.lastore, 1)) (ep : pc + 1 = pc') (h : Jw κ g nL X (ks_sB M k (vp_updL (M.2.2.2 k) i.toNatClampNeg x)) lv pc' st) : Jw κ g nL X M lv pc (.long x :: .int i :: .ref a :: st) := by
  obtain ⟨p, l, e, R, s, m, args, below, meth, c, cells, slots, Q, A⟩ := κ
  obtain ⟨hx, hb, hml, hown, hts, hK, hN, hD, hAA, rfl, hc9, hs9, hg⟩ := hκ
  subst ep
  intro H locs ls hP hS hl
  exact va_last hx hb hK hP (hD X M) hS q 1 (ha.1 X M) rfl hin hd (fun H1 locs1 hP1 _ hS1 => h H1 locs1 ls (by rw [← ha.2]; exact hP1) hS1 hl)
theorem jm_alenJ {q k n a : Nat} (hκ : CF κ g own cc Ts nL rm) (ha : mhJ g q k n a) (hd : decode cc pc = .ok (.arraylength, 1)) (ep : pc + 1 = pc') (h : Jw κ g nL X M lv pc' (.int (Int32.ofNat n) :: st)) : Jw κ g nL X M lv pc (.ref a :: st) := by
  obtain ⟨p, l, e, R, s, m, args, below, meth, c, cells, slots, Q, A⟩ := κ
  obtain ⟨hx, hb, hml, hown, hts, hK, hN, hD, hAA, rfl, hc9, hs9, hg⟩ := hκ
  subst ep
  intro H locs ls hP hS hl
  exact va_alen hx hb hK hP q 1 (ha.1 X M) (ty := .long) rfl rfl hd (h H locs ls hP hS hl)
theorem jx_copyi {q k n a q0 k0 n0 a0 idx : Nat} {sp dp z : Int32} (hκ : CF κ g own cc Ts nL rm) (ha0 : ahI g q0 k0 n0 a0) (ha : ahI g q k n a) (h1 : ¬ sp < 0) (h2 : ¬ dp < 0) (h3 : ¬ z < 0) (h4 : sp.toNatClampNeg + z.toNatClampNeg ≤ n0) (h5 : dp.toNatClampNeg + z.toNatClampNeg ≤ n)
    (hl1 : Cond.methodLink own idx arraycopyName ∈ Ts) (hl2 : Cond.native arraycopyName ∈ Ts) (hl3 : Cond.static arraycopyName ∈ Ts) (hl4 : Cond.initialized "java/lang/System" ∈ Ts) (hr1 : 1 ≤ rm.frames) (hr2 : (st.map fun v => v.category).sum + 18 ≤ rm.locals) (hd : decode cc pc = .ok (.invokestatic idx, 3)) (ep : pc + 3 = pc')
    (h : Jw κ g nL (ks_sA X k (va_cpy (X.2.2.1 k0) (X.2.2.1 k) sp.toNatClampNeg dp.toNatClampNeg z.toNatClampNeg)) M lv pc' st) : Jw κ g nL X M lv pc (.int z :: .int dp :: .ref a :: .int sp :: .ref a0 :: st) := by
  obtain ⟨p, l, e, R, s, m, args, below, meth, c, cells, slots, Q, A⟩ := κ
  obtain ⟨hx, hb, hml, hown, hts, hK, hN, hD, hAA, rfl, hc9, hs9, hg⟩ := hκ
  subst ep
  intro H locs ls hP hS hl
  exact va_copyi hx hb (hml.trans hl.1.symm) hown (hts _ hl1) (hts _ hl2) (hts _ hl3) (hts _ hl4) hK hP (hD X M) hS q0 q 0 0 (ha0.1 X M) (ha.1 X M) (ty := .int) rfl rfl rfl h1 h2 h3 h4 h5 (fun _ _ => rfl) hr1 hr2 hd (fun H1 locs1 hP1 _ hS1 => h H1 locs1 ls (by rw [← ha.2]; exact hP1) hS1 hl)
theorem j_aald {q n b t : Nat} {a : Nat} {cA : ClassId} {ty : FieldType} {i : Int32} (hκ : CF κ g own cc Ts nL rm) (ha : (ww g X M)[q]? = some (a, .inl (cA, n, .inr (.inr (.inr (.inr (fun i => if i < n then some (g.2.1 (i + b)) else none))))))) (ht : (wtys g)[t]? = some (cA, .array ty)) (hin : vp_in i n) (hd : decode cc pc = .ok (.aaload, 1)) (ep : pc + 1 = pc') (h : Jw κ g nL X M lv pc' (.ref (g.2.1 (i.toNatClampNeg + b)) :: st)) : Jw κ g nL X M lv pc (.int i :: .ref a :: st) := by
  obtain ⟨p, l, e, R, s, m, args, below, meth, c, cells, slots, Q, A⟩ := κ
  obtain ⟨hx, hb, hml, hown, hts, hK, hN, hD, hAA, rfl, hc9, hs9, hg⟩ := hκ
  subst ep
  intro H locs ls hP hS hl
  have hlt : i.toNatClampNeg < n := Nat.not_le.mp fun q => hin (Or.inr q)
  exact W.aald (v := va_rf (some (g.2.1 (i.toNatClampNeg + b)))) (ty := .array ty) hx hb (hP q _ ha) ((hK.2 t _ ht).1 n (fun j => va_rf (if j < n then some (g.2.1 (j + b)) else none))) rfl (fun q => by cases q) (by show ¬ (i < 0 ∨ (arrV _ _ _).slots.size ≤ _); rw [arrV_size]; exact hin) (by show (arrV _ _ _).slots[_]? = _; rw [arrV_read _ _ hlt]; exact congrArg (fun z => some (va_rf z)) (if_pos hlt)) rfl rfl hd (h H locs ls hP hS hl)
theorem jx_callVi {y : MethodName} {C : String} {T : u_T} {N ci q0 idx maxL b n : Nat} {bytes : ByteArray} {ret : Option FieldType} {ws ws' : List Cond} {rmc : Room} {fs As stk : List Value} {post : Int32 → ST → Prop} (hκ : CF κ g own cc Ts nL rm) (hM : ∀ l, Met l y ws rmc (va_Pc (.ref b :: As) (PU g X M)) (va_Qi post (fun Y t => va_P g.1 vwCl (ww g Y M) t.heap) (wA g)) 0 0 (wA g)) (hw : ws = Cond.code y bytes maxL ret :: ws') (hrc : rmc.cells = 0) (hrs : rmc.slots = 0) (hG : GoodIn Ts (wsV own idx C y ws)) (hq : y.cls = C ∧ y.cls ≠ "java/lang/invoke/MethodHandle" ∧ y.cls ≠ "java/lang/invoke/VarHandle" ∧ (parseMethodDescriptor y.desc).map (fun d => d.parameters.length) = some n) (hR : rmc.frames + 1 ≤ rm.frames ∧ 8 + (maxL + 11) + rmc.locals ≤ rm.locals) (he : (ww g X M)[q0]? = some (b, .inr (ci, fs))) (hc : vwCl[ci]? = some (C, T, N)) (hn : As.length = n) (hst : stk = As.reverse ++ .ref b :: st) (hcat : (st.map fun v => v.category).sum ≤ 8) (hd : decode cc pc = .ok (.invokevirtual idx, 3)) (ep : pc + 3 = pc') (h : ∀ (r : Int32) (Y : ST), post r Y → Jw κ g nL Y M lv pc' (.int r :: st)) : Jw κ g nL X M lv pc stk := by
  obtain ⟨p, l, e, R, s, m, args, below, meth, c, cells, slots, Q, A⟩ := κ
  obtain ⟨hx, hb, hml, hown, hts, hK, hN, hD, hAA, rfl, hc9, hs8, hg⟩ := hκ
  subst ep
  subst hst
  intro H locs ls hP hS hl
  exact va_calli (va_runV (As := As) (rest := st) ⟨hx, hb, hml, hown, hts⟩ (hM l) (cwV n hts hG hw hrc hrs hq hR) ⟨PU.blind, va_recv hK hP hc he, fun U hU hW => ⟨rfl, ⟨by rw [hU]; exact hP, va_K.moved hW.alike hK, NW.warm hW hN⟩⟩⟩ rfl hn hl.1 rfl (lv_room hcat) hd ⟨hc9, hs8⟩) hS (fun q _ h9 => hAA q h9) (fun q h9 => hAA q h9) (fun r u t H1 locs1 ht _ hw9 hB _ _ hS1 => h r u hw9 H1 locs1 ls (by rw [← ht]; exact hB) hS1 hl)
theorem jx_callSi {y : MethodName} {idx maxL n : Nat} {bytes : ByteArray} {ret : Option FieldType} {ws ws' : List Cond} {rmc : Room} {As stk : List Value} {post : Int32 → ST → Prop} (hκ : CF κ g own cc Ts nL rm) (hM : ∀ l, Met l y ws rmc (va_Pc As (PU g X M)) (va_Qi post (fun Y t => va_P g.1 vwCl (ww g Y M) t.heap) (wA g)) 0 0 (wA g)) (hw : ws = Cond.code y bytes maxL ret :: ws') (hrc : rmc.cells = 0) (hrs : rmc.slots = 0) (hG : GoodIn Ts (va_wsS own idx y ws)) (hq : y.cls ≠ "java/lang/invoke/MethodHandle" ∧ y.cls ≠ "java/lang/invoke/VarHandle" ∧ (parseMethodDescriptor y.desc).map (fun d => d.parameters.length) = some n) (hR : rmc.frames + 1 ≤ rm.frames ∧ 8 + (maxL + 11) + rmc.locals ≤ rm.locals) (hn : As.length = n) (hst : stk = As.reverse ++ st) (hcat : (st.map fun v => v.category).sum ≤ 8) (hd : decode cc pc = .ok (.invokestatic idx, 3)) (ep : pc + 3 = pc') (h : ∀ (r : Int32) (Y : ST), post r Y → Jw κ g nL Y M lv pc' (.int r :: st)) : Jw κ g nL X M lv pc stk := by
  obtain ⟨p, l, e, R, s, m, args, below, meth, c, cells, slots, Q, A⟩ := κ
  obtain ⟨hx, hb, hml, hown, hts, hK, hN, hD, hAA, rfl, hc9, hs8, hg⟩ := hκ
  subst ep
  subst hst
  intro H locs ls hP hS hl
  exact va_calli (va_runS (As := As) (rest := st) ⟨hx, hb, hml, hown, hts⟩ (hM l) (va_cwS n hts hG hw hrc hrs hq hR) ⟨PU.blind, fun U hU hW => ⟨rfl, ⟨by rw [hU]; exact hP, va_K.moved hW.alike hK, NW.warm hW hN⟩⟩⟩ rfl hn hl.1 rfl (lv_room hcat) hd ⟨hc9, hs8⟩) hS (fun q _ h9 => hAA q h9) (fun q h9 => hAA q h9) (fun r u t H1 locs1 ht _ hw9 hB _ _ hS1 => h r u hw9 H1 locs1 ls (by rw [← ht]; exact hB) hS1 hl)
theorem jx_callNi {y : MethodName} {idx maxL n : Nat} {bytes : ByteArray} {ret : Option FieldType} {ws ws' : List Cond} {rmc : Room} {As stk : List Value} {post : Int32 → ST → Prop} (hκ : CF κ g own cc Ts nL rm) (hM : ∀ l, Met l y ws rmc (va_Pc As (PU g X M)) (va_Qi post (fun Y t => va_P g.1 vwCl (ww g Y M) t.heap) (wA g)) 0 0 (wA g)) (hw : ws = Cond.code y bytes maxL ret :: ws') (hrc : rmc.cells = 0) (hrs : rmc.slots = 0) (hG : GoodIn Ts ws) (k9 : Nat) (hn9 : nwM[k9]? = some (own, idx, y)) (hi9 : Cond.initialized y.cls ∈ Ts) (hs9 : Cond.static y ∈ Ts) (hq : y.cls ≠ "java/lang/invoke/MethodHandle" ∧ y.cls ≠ "java/lang/invoke/VarHandle" ∧ (parseMethodDescriptor y.desc).map (fun d => d.parameters.length) = some n) (hR : rmc.frames + 1 ≤ rm.frames ∧ 8 + (maxL + 11) + rmc.locals ≤ rm.locals) (hn : As.length = n) (hst : stk = As.reverse ++ st) (hcat : (st.map fun v => v.category).sum ≤ 8) (hd : decode cc pc = .ok (.invokestatic idx, 3)) (ep : pc + 3 = pc') (h : ∀ (r : Int32) (Y : ST), post r Y → Jw κ g nL Y M lv pc' (.int r :: st)) : Jw κ g nL X M lv pc stk := by
  obtain ⟨p, l, e, R, s, m, args, below, meth, c, cells, slots, Q, A⟩ := κ
  obtain ⟨hx, hb, hml, hown, hts, hK, hN, hD, hAA, rfl, hc9, hs8, hg⟩ := hκ
  subst ep
  subst hst
  intro H locs ls hP hS hl
  exact va_calli (va_runSN (As := As) (rest := st) ⟨hx, hb, hml, hown, hts⟩ (hM l) ⟨va_cnB n hts hG hw hrc hrs (hN.2 _ (List.mem_of_getElem? hn9)) (hts _ hi9) hq hR, hts _ hs9, trivial⟩ ⟨PU.blind, fun U hU hW => ⟨rfl, ⟨by rw [hU]; exact hP, va_K.moved hW.alike hK, NW.warm hW hN⟩⟩⟩ rfl hn hl.1 rfl (lv_room hcat) hd ⟨hc9, hs8⟩) hS (fun q _ h9 => hAA q h9) (fun q h9 => hAA q h9) (fun r u t H1 locs1 ht _ hw9 hB _ _ hS1 => h r u hw9 H1 locs1 ls (by rw [← ht]; exact hB) hS1 hl)
theorem jx_callVv {y : MethodName} {C : String} {T : u_T} {N ci q0 idx maxL b n : Nat} {bytes : ByteArray} {ret : Option FieldType} {ws ws' : List Cond} {rmc : Room} {fs As stk : List Value} {post : ST → Prop} (hκ : CF κ g own cc Ts nL rm) (hM : ∀ l, Met l y ws rmc (va_Pc (.ref b :: As) (PU g X M)) (va_Qv post (fun Y t => va_P g.1 vwCl (ww g Y M) t.heap) (wA g)) 0 0 (wA g)) (hw : ws = Cond.code y bytes maxL ret :: ws') (hrc : rmc.cells = 0) (hrs : rmc.slots = 0) (hG : GoodIn Ts (wsV own idx C y ws)) (hq : y.cls = C ∧ y.cls ≠ "java/lang/invoke/MethodHandle" ∧ y.cls ≠ "java/lang/invoke/VarHandle" ∧ (parseMethodDescriptor y.desc).map (fun d => d.parameters.length) = some n) (hR : rmc.frames + 1 ≤ rm.frames ∧ 8 + (maxL + 11) + rmc.locals ≤ rm.locals) (he : (ww g X M)[q0]? = some (b, .inr (ci, fs))) (hc : vwCl[ci]? = some (C, T, N)) (hn : As.length = n) (hst : stk = As.reverse ++ .ref b :: st) (hcat : (st.map fun v => v.category).sum ≤ 8) (hd : decode cc pc = .ok (.invokevirtual idx, 3)) (ep : pc + 3 = pc') (h : ∀ (Y : ST), post Y → Jw κ g nL Y M lv pc' (st)) : Jw κ g nL X M lv pc stk := by
  obtain ⟨p, l, e, R, s, m, args, below, meth, c, cells, slots, Q, A⟩ := κ
  obtain ⟨hx, hb, hml, hown, hts, hK, hN, hD, hAA, rfl, hc9, hs8, hg⟩ := hκ
  subst ep
  subst hst
  intro H locs ls hP hS hl
  exact va_callv (va_runV (As := As) (rest := st) ⟨hx, hb, hml, hown, hts⟩ (hM l) (cwV n hts hG hw hrc hrs hq hR) ⟨PU.blind, va_recv hK hP hc he, fun U hU hW => ⟨rfl, ⟨by rw [hU]; exact hP, va_K.moved hW.alike hK, NW.warm hW hN⟩⟩⟩ rfl hn hl.1 rfl (lv_room hcat) hd ⟨hc9, hs8⟩) hS (fun q _ h9 => hAA q h9) (fun q h9 => hAA q h9) (fun u t H1 locs1 ht _ hw9 hB _ _ hS1 => h u hw9 H1 locs1 ls (by rw [← ht]; exact hB) hS1 hl)
theorem jx_callSv {y : MethodName} {idx maxL n : Nat} {bytes : ByteArray} {ret : Option FieldType} {ws ws' : List Cond} {rmc : Room} {As stk : List Value} {post : ST → Prop} (hκ : CF κ g own cc Ts nL rm) (hM : ∀ l, Met l y ws rmc (va_Pc As (PU g X M)) (va_Qv post (fun Y t => va_P g.1 vwCl (ww g Y M) t.heap) (wA g)) 0 0 (wA g)) (hw : ws = Cond.code y bytes maxL ret :: ws') (hrc : rmc.cells = 0) (hrs : rmc.slots = 0) (hG : GoodIn Ts (va_wsS own idx y ws)) (hq : y.cls ≠ "java/lang/invoke/MethodHandle" ∧ y.cls ≠ "java/lang/invoke/VarHandle" ∧ (parseMethodDescriptor y.desc).map (fun d => d.parameters.length) = some n) (hR : rmc.frames + 1 ≤ rm.frames ∧ 8 + (maxL + 11) + rmc.locals ≤ rm.locals) (hn : As.length = n) (hst : stk = As.reverse ++ st) (hcat : (st.map fun v => v.category).sum ≤ 8) (hd : decode cc pc = .ok (.invokestatic idx, 3)) (ep : pc + 3 = pc') (h : ∀ (Y : ST), post Y → Jw κ g nL Y M lv pc' (st)) : Jw κ g nL X M lv pc stk := by
  obtain ⟨p, l, e, R, s, m, args, below, meth, c, cells, slots, Q, A⟩ := κ
  obtain ⟨hx, hb, hml, hown, hts, hK, hN, hD, hAA, rfl, hc9, hs8, hg⟩ := hκ
  subst ep
  subst hst
  intro H locs ls hP hS hl
  exact va_callv (va_runS (As := As) (rest := st) ⟨hx, hb, hml, hown, hts⟩ (hM l) (va_cwS n hts hG hw hrc hrs hq hR) ⟨PU.blind, fun U hU hW => ⟨rfl, ⟨by rw [hU]; exact hP, va_K.moved hW.alike hK, NW.warm hW hN⟩⟩⟩ rfl hn hl.1 rfl (lv_room hcat) hd ⟨hc9, hs8⟩) hS (fun q _ h9 => hAA q h9) (fun q h9 => hAA q h9) (fun u t H1 locs1 ht _ hw9 hB _ _ hS1 => h u hw9 H1 locs1 ls (by rw [← ht]; exact hB) hS1 hl)
theorem jx_callNv {y : MethodName} {idx maxL n : Nat} {bytes : ByteArray} {ret : Option FieldType} {ws ws' : List Cond} {rmc : Room} {As stk : List Value} {post : ST → Prop} (hκ : CF κ g own cc Ts nL rm) (hM : ∀ l, Met l y ws rmc (va_Pc As (PU g X M)) (va_Qv post (fun Y t => va_P g.1 vwCl (ww g Y M) t.heap) (wA g)) 0 0 (wA g)) (hw : ws = Cond.code y bytes maxL ret :: ws') (hrc : rmc.cells = 0) (hrs : rmc.slots = 0) (hG : GoodIn Ts ws) (k9 : Nat) (hn9 : nwM[k9]? = some (own, idx, y)) (hi9 : Cond.initialized y.cls ∈ Ts) (hs9 : Cond.static y ∈ Ts) (hq : y.cls ≠ "java/lang/invoke/MethodHandle" ∧ y.cls ≠ "java/lang/invoke/VarHandle" ∧ (parseMethodDescriptor y.desc).map (fun d => d.parameters.length) = some n) (hR : rmc.frames + 1 ≤ rm.frames ∧ 8 + (maxL + 11) + rmc.locals ≤ rm.locals) (hn : As.length = n) (hst : stk = As.reverse ++ st) (hcat : (st.map fun v => v.category).sum ≤ 8) (hd : decode cc pc = .ok (.invokestatic idx, 3)) (ep : pc + 3 = pc') (h : ∀ (Y : ST), post Y → Jw κ g nL Y M lv pc' (st)) : Jw κ g nL X M lv pc stk := by
  obtain ⟨p, l, e, R, s, m, args, below, meth, c, cells, slots, Q, A⟩ := κ
  obtain ⟨hx, hb, hml, hown, hts, hK, hN, hD, hAA, rfl, hc9, hs8, hg⟩ := hκ
  subst ep
  subst hst
  intro H locs ls hP hS hl
  exact va_callv (va_runSN (As := As) (rest := st) ⟨hx, hb, hml, hown, hts⟩ (hM l) ⟨va_cnB n hts hG hw hrc hrs (hN.2 _ (List.mem_of_getElem? hn9)) (hts _ hi9) hq hR, hts _ hs9, trivial⟩ ⟨PU.blind, fun U hU hW => ⟨rfl, ⟨by rw [hU]; exact hP, va_K.moved hW.alike hK, NW.warm hW hN⟩⟩⟩ rfl hn hl.1 rfl (lv_room hcat) hd ⟨hc9, hs8⟩) hS (fun q _ h9 => hAA q h9) (fun q h9 => hAA q h9) (fun u t H1 locs1 ht _ hw9 hB _ _ hS1 => h u hw9 H1 locs1 ls (by rw [← ht]; exact hB) hS1 hl)
theorem jx_callVl {y : MethodName} {C : String} {T : u_T} {N ci q0 idx maxL b n : Nat} {bytes : ByteArray} {ret : Option FieldType} {ws ws' : List Cond} {rmc : Room} {fs As stk : List Value} {post : Int64 → ST → Prop} (hκ : CF κ g own cc Ts nL rm) (hM : ∀ l, Met l y ws rmc (va_Pc (.ref b :: As) (PU g X M)) (va_Ql post (fun Y t => va_P g.1 vwCl (ww g Y M) t.heap) (wA g)) 0 0 (wA g)) (hw : ws = Cond.code y bytes maxL ret :: ws') (hrc : rmc.cells = 0) (hrs : rmc.slots = 0) (hG : GoodIn Ts (wsV own idx C y ws)) (hq : y.cls = C ∧ y.cls ≠ "java/lang/invoke/MethodHandle" ∧ y.cls ≠ "java/lang/invoke/VarHandle" ∧ (parseMethodDescriptor y.desc).map (fun d => d.parameters.length) = some n) (hR : rmc.frames + 1 ≤ rm.frames ∧ 8 + (maxL + 11) + rmc.locals ≤ rm.locals) (he : (ww g X M)[q0]? = some (b, .inr (ci, fs))) (hc : vwCl[ci]? = some (C, T, N)) (hn : As.length = n) (hst : stk = As.reverse ++ .ref b :: st) (hcat : (st.map fun v => v.category).sum ≤ 8) (hd : decode cc pc = .ok (.invokevirtual idx, 3)) (ep : pc + 3 = pc') (h : ∀ (r : Int64) (Y : ST), post r Y → Jw κ g nL Y M lv pc' (.long r :: st)) : Jw κ g nL X M lv pc stk := by
  obtain ⟨p, l, e, R, s, m, args, below, meth, c, cells, slots, Q, A⟩ := κ
  obtain ⟨hx, hb, hml, hown, hts, hK, hN, hD, hAA, rfl, hc9, hs8, hg⟩ := hκ
  subst ep
  subst hst
  intro H locs ls hP hS hl
  exact va_calll (va_runV (As := As) (rest := st) ⟨hx, hb, hml, hown, hts⟩ (hM l) (cwV n hts hG hw hrc hrs hq hR) ⟨PU.blind, va_recv hK hP hc he, fun U hU hW => ⟨rfl, ⟨by rw [hU]; exact hP, va_K.moved hW.alike hK, NW.warm hW hN⟩⟩⟩ rfl hn hl.1 rfl (lv_room hcat) hd ⟨hc9, hs8⟩) hS (fun q _ h9 => hAA q h9) (fun q h9 => hAA q h9) (fun r u t H1 locs1 ht _ hw9 hB _ _ hS1 => h r u hw9 H1 locs1 ls (by rw [← ht]; exact hB) hS1 hl)
theorem jx_callSl {y : MethodName} {idx maxL n : Nat} {bytes : ByteArray} {ret : Option FieldType} {ws ws' : List Cond} {rmc : Room} {As stk : List Value} {post : Int64 → ST → Prop} (hκ : CF κ g own cc Ts nL rm) (hM : ∀ l, Met l y ws rmc (va_Pc As (PU g X M)) (va_Ql post (fun Y t => va_P g.1 vwCl (ww g Y M) t.heap) (wA g)) 0 0 (wA g)) (hw : ws = Cond.code y bytes maxL ret :: ws') (hrc : rmc.cells = 0) (hrs : rmc.slots = 0) (hG : GoodIn Ts (va_wsS own idx y ws)) (hq : y.cls ≠ "java/lang/invoke/MethodHandle" ∧ y.cls ≠ "java/lang/invoke/VarHandle" ∧ (parseMethodDescriptor y.desc).map (fun d => d.parameters.length) = some n) (hR : rmc.frames + 1 ≤ rm.frames ∧ 8 + (maxL + 11) + rmc.locals ≤ rm.locals) (hn : As.length = n) (hst : stk = As.reverse ++ st) (hcat : (st.map fun v => v.category).sum ≤ 8) (hd : decode cc pc = .ok (.invokestatic idx, 3)) (ep : pc + 3 = pc') (h : ∀ (r : Int64) (Y : ST), post r Y → Jw κ g nL Y M lv pc' (.long r :: st)) : Jw κ g nL X M lv pc stk := by
  obtain ⟨p, l, e, R, s, m, args, below, meth, c, cells, slots, Q, A⟩ := κ
  obtain ⟨hx, hb, hml, hown, hts, hK, hN, hD, hAA, rfl, hc9, hs8, hg⟩ := hκ
  subst ep
  subst hst
  intro H locs ls hP hS hl
  exact va_calll (va_runS (As := As) (rest := st) ⟨hx, hb, hml, hown, hts⟩ (hM l) (va_cwS n hts hG hw hrc hrs hq hR) ⟨PU.blind, fun U hU hW => ⟨rfl, ⟨by rw [hU]; exact hP, va_K.moved hW.alike hK, NW.warm hW hN⟩⟩⟩ rfl hn hl.1 rfl (lv_room hcat) hd ⟨hc9, hs8⟩) hS (fun q _ h9 => hAA q h9) (fun q h9 => hAA q h9) (fun r u t H1 locs1 ht _ hw9 hB _ _ hS1 => h r u hw9 H1 locs1 ls (by rw [← ht]; exact hB) hS1 hl)
theorem jx_callNl {y : MethodName} {idx maxL n : Nat} {bytes : ByteArray} {ret : Option FieldType} {ws ws' : List Cond} {rmc : Room} {As stk : List Value} {post : Int64 → ST → Prop} (hκ : CF κ g own cc Ts nL rm) (hM : ∀ l, Met l y ws rmc (va_Pc As (PU g X M)) (va_Ql post (fun Y t => va_P g.1 vwCl (ww g Y M) t.heap) (wA g)) 0 0 (wA g)) (hw : ws = Cond.code y bytes maxL ret :: ws') (hrc : rmc.cells = 0) (hrs : rmc.slots = 0) (hG : GoodIn Ts ws) (k9 : Nat) (hn9 : nwM[k9]? = some (own, idx, y)) (hi9 : Cond.initialized y.cls ∈ Ts) (hs9 : Cond.static y ∈ Ts) (hq : y.cls ≠ "java/lang/invoke/MethodHandle" ∧ y.cls ≠ "java/lang/invoke/VarHandle" ∧ (parseMethodDescriptor y.desc).map (fun d => d.parameters.length) = some n) (hR : rmc.frames + 1 ≤ rm.frames ∧ 8 + (maxL + 11) + rmc.locals ≤ rm.locals) (hn : As.length = n) (hst : stk = As.reverse ++ st) (hcat : (st.map fun v => v.category).sum ≤ 8) (hd : decode cc pc = .ok (.invokestatic idx, 3)) (ep : pc + 3 = pc') (h : ∀ (r : Int64) (Y : ST), post r Y → Jw κ g nL Y M lv pc' (.long r :: st)) : Jw κ g nL X M lv pc stk := by
  obtain ⟨p, l, e, R, s, m, args, below, meth, c, cells, slots, Q, A⟩ := κ
  obtain ⟨hx, hb, hml, hown, hts, hK, hN, hD, hAA, rfl, hc9, hs8, hg⟩ := hκ
  subst ep
  subst hst
  intro H locs ls hP hS hl
  exact va_calll (va_runSN (As := As) (rest := st) ⟨hx, hb, hml, hown, hts⟩ (hM l) ⟨va_cnB n hts hG hw hrc hrs (hN.2 _ (List.mem_of_getElem? hn9)) (hts _ hi9) hq hR, hts _ hs9, trivial⟩ ⟨PU.blind, fun U hU hW => ⟨rfl, ⟨by rw [hU]; exact hP, va_K.moved hW.alike hK, NW.warm hW hN⟩⟩⟩ rfl hn hl.1 rfl (lv_room hcat) hd ⟨hc9, hs8⟩) hS (fun q _ h9 => hAA q h9) (fun q h9 => hAA q h9) (fun r u t H1 locs1 ht _ hw9 hB _ _ hS1 => h r u hw9 H1 locs1 ls (by rw [← ht]; exact hB) hS1 hl)
theorem jm_callVi {y : MethodName} {C : String} {T : u_T} {N ci q0 idx maxL b n : Nat} {bytes : ByteArray} {ret : Option FieldType} {ws ws' : List Cond} {rmc : Room} {fs As stk : List Value} {post : Int32 → ST → Prop} (hκ : CF κ g own cc Ts nL rm) (hM : ∀ l, Met l y ws rmc (va_Pc (.ref b :: As) (PU g X M)) (va_Qi post (fun Y t => va_P g.1 vwCl (ww g X Y) t.heap) (wA g)) 0 0 (wA g)) (hw : ws = Cond.code y bytes maxL ret :: ws') (hrc : rmc.cells = 0) (hrs : rmc.slots = 0) (hG : GoodIn Ts (wsV own idx C y ws)) (hq : y.cls = C ∧ y.cls ≠ "java/lang/invoke/MethodHandle" ∧ y.cls ≠ "java/lang/invoke/VarHandle" ∧ (parseMethodDescriptor y.desc).map (fun d => d.parameters.length) = some n) (hR : rmc.frames + 1 ≤ rm.frames ∧ 8 + (maxL + 11) + rmc.locals ≤ rm.locals) (he : (ww g X M)[q0]? = some (b, .inr (ci, fs))) (hc : vwCl[ci]? = some (C, T, N)) (hn : As.length = n) (hst : stk = As.reverse ++ .ref b :: st) (hcat : (st.map fun v => v.category).sum ≤ 8) (hd : decode cc pc = .ok (.invokevirtual idx, 3)) (ep : pc + 3 = pc') (h : ∀ (r : Int32) (Y : ST), post r Y → Jw κ g nL X Y lv pc' (.int r :: st)) : Jw κ g nL X M lv pc stk := by
  obtain ⟨p, l, e, R, s, m, args, below, meth, c, cells, slots, Q, A⟩ := κ
  obtain ⟨hx, hb, hml, hown, hts, hK, hN, hD, hAA, rfl, hc9, hs8, hg⟩ := hκ
  subst ep
  subst hst
  intro H locs ls hP hS hl
  exact va_calli (va_runV (As := As) (rest := st) ⟨hx, hb, hml, hown, hts⟩ (hM l) (cwV n hts hG hw hrc hrs hq hR) ⟨PU.blind, va_recv hK hP hc he, fun U hU hW => ⟨rfl, ⟨by rw [hU]; exact hP, va_K.moved hW.alike hK, NW.warm hW hN⟩⟩⟩ rfl hn hl.1 rfl (lv_room hcat) hd ⟨hc9, hs8⟩) hS (fun q _ h9 => hAA q h9) (fun q h9 => hAA q h9) (fun r u t H1 locs1 ht _ hw9 hB _ _ hS1 => h r u hw9 H1 locs1 ls (by rw [← ht]; exact hB) hS1 hl)
theorem jm_callSi {y : MethodName} {idx maxL n : Nat} {bytes : ByteArray} {ret : Option FieldType} {ws ws' : List Cond} {rmc : Room} {As stk : List Value} {post : Int32 → ST → Prop} (hκ : CF κ g own cc Ts nL rm) (hM : ∀ l, Met l y ws rmc (va_Pc As (PU g X M)) (va_Qi post (fun Y t => va_P g.1 vwCl (ww g X Y) t.heap) (wA g)) 0 0 (wA g)) (hw : ws = Cond.code y bytes maxL ret :: ws') (hrc : rmc.cells = 0) (hrs : rmc.slots = 0) (hG : GoodIn Ts (va_wsS own idx y ws)) (hq : y.cls ≠ "java/lang/invoke/MethodHandle" ∧ y.cls ≠ "java/lang/invoke/VarHandle" ∧ (parseMethodDescriptor y.desc).map (fun d => d.parameters.length) = some n) (hR : rmc.frames + 1 ≤ rm.frames ∧ 8 + (maxL + 11) + rmc.locals ≤ rm.locals) (hn : As.length = n) (hst : stk = As.reverse ++ st) (hcat : (st.map fun v => v.category).sum ≤ 8) (hd : decode cc pc = .ok (.invokestatic idx, 3)) (ep : pc + 3 = pc') (h : ∀ (r : Int32) (Y : ST), post r Y → Jw κ g nL X Y lv pc' (.int r :: st)) : Jw κ g nL X M lv pc stk := by
  obtain ⟨p, l, e, R, s, m, args, below, meth, c, cells, slots, Q, A⟩ := κ
  obtain ⟨hx, hb, hml, hown, hts, hK, hN, hD, hAA, rfl, hc9, hs8, hg⟩ := hκ
  subst ep
  subst hst
  intro H locs ls hP hS hl
  exact va_calli (va_runS (As := As) (rest := st) ⟨hx, hb, hml, hown, hts⟩ (hM l) (va_cwS n hts hG hw hrc hrs hq hR) ⟨PU.blind, fun U hU hW => ⟨rfl, ⟨by rw [hU]; exact hP, va_K.moved hW.alike hK, NW.warm hW hN⟩⟩⟩ rfl hn hl.1 rfl (lv_room hcat) hd ⟨hc9, hs8⟩) hS (fun q _ h9 => hAA q h9) (fun q h9 => hAA q h9) (fun r u t H1 locs1 ht _ hw9 hB _ _ hS1 => h r u hw9 H1 locs1 ls (by rw [← ht]; exact hB) hS1 hl)
theorem jm_callNi {y : MethodName} {idx maxL n : Nat} {bytes : ByteArray} {ret : Option FieldType} {ws ws' : List Cond} {rmc : Room} {As stk : List Value} {post : Int32 → ST → Prop} (hκ : CF κ g own cc Ts nL rm) (hM : ∀ l, Met l y ws rmc (va_Pc As (PU g X M)) (va_Qi post (fun Y t => va_P g.1 vwCl (ww g X Y) t.heap) (wA g)) 0 0 (wA g)) (hw : ws = Cond.code y bytes maxL ret :: ws') (hrc : rmc.cells = 0) (hrs : rmc.slots = 0) (hG : GoodIn Ts ws) (k9 : Nat) (hn9 : nwM[k9]? = some (own, idx, y)) (hi9 : Cond.initialized y.cls ∈ Ts) (hs9 : Cond.static y ∈ Ts) (hq : y.cls ≠ "java/lang/invoke/MethodHandle" ∧ y.cls ≠ "java/lang/invoke/VarHandle" ∧ (parseMethodDescriptor y.desc).map (fun d => d.parameters.length) = some n) (hR : rmc.frames + 1 ≤ rm.frames ∧ 8 + (maxL + 11) + rmc.locals ≤ rm.locals) (hn : As.length = n) (hst : stk = As.reverse ++ st) (hcat : (st.map fun v => v.category).sum ≤ 8) (hd : decode cc pc = .ok (.invokestatic idx, 3)) (ep : pc + 3 = pc') (h : ∀ (r : Int32) (Y : ST), post r Y → Jw κ g nL X Y lv pc' (.int r :: st)) : Jw κ g nL X M lv pc stk := by
  obtain ⟨p, l, e, R, s, m, args, below, meth, c, cells, slots, Q, A⟩ := κ
  obtain ⟨hx, hb, hml, hown, hts, hK, hN, hD, hAA, rfl, hc9, hs8, hg⟩ := hκ
  subst ep
  subst hst
  intro H locs ls hP hS hl
  exact va_calli (va_runSN (As := As) (rest := st) ⟨hx, hb, hml, hown, hts⟩ (hM l) ⟨va_cnB n hts hG hw hrc hrs (hN.2 _ (List.mem_of_getElem? hn9)) (hts _ hi9) hq hR, hts _ hs9, trivial⟩ ⟨PU.blind, fun U hU hW => ⟨rfl, ⟨by rw [hU]; exact hP, va_K.moved hW.alike hK, NW.warm hW hN⟩⟩⟩ rfl hn hl.1 rfl (lv_room hcat) hd ⟨hc9, hs8⟩) hS (fun q _ h9 => hAA q h9) (fun q h9 => hAA q h9) (fun r u t H1 locs1 ht _ hw9 hB _ _ hS1 => h r u hw9 H1 locs1 ls (by rw [← ht]; exact hB) hS1 hl)
theorem jm_callVv {y : MethodName} {C : String} {T : u_T} {N ci q0 idx maxL b n : Nat} {bytes : ByteArray} {ret : Option FieldType} {ws ws' : List Cond} {rmc : Room} {fs As stk : List Value} {post : ST → Prop} (hκ : CF κ g own cc Ts nL rm) (hM : ∀ l, Met l y ws rmc (va_Pc (.ref b :: As) (PU g X M)) (va_Qv post (fun Y t => va_P g.1 vwCl (ww g X Y) t.heap) (wA g)) 0 0 (wA g)) (hw : ws = Cond.code y bytes maxL ret :: ws') (hrc : rmc.cells = 0) (hrs : rmc.slots = 0) (hG : GoodIn Ts (wsV own idx C y ws)) (hq : y.cls = C ∧ y.cls ≠ "java/lang/invoke/MethodHandle" ∧ y.cls ≠ "java/lang/invoke/VarHandle" ∧ (parseMethodDescriptor y.desc).map (fun d => d.parameters.length) = some n) (hR : rmc.frames + 1 ≤ rm.frames ∧ 8 + (maxL + 11) + rmc.locals ≤ rm.locals) (he : (ww g X M)[q0]? = some (b, .inr (ci, fs))) (hc : vwCl[ci]? = some (C, T, N)) (hn : As.length = n) (hst : stk = As.reverse ++ .ref b :: st) (hcat : (st.map fun v => v.category).sum ≤ 8) (hd : decode cc pc = .ok (.invokevirtual idx, 3)) (ep : pc + 3 = pc') (h : ∀ (Y : ST), post Y → Jw κ g nL X Y lv pc' (st)) : Jw κ g nL X M lv pc stk := by
  obtain ⟨p, l, e, R, s, m, args, below, meth, c, cells, slots, Q, A⟩ := κ
  obtain ⟨hx, hb, hml, hown, hts, hK, hN, hD, hAA, rfl, hc9, hs8, hg⟩ := hκ
  subst ep
  subst hst
  intro H locs ls hP hS hl
  exact va_callv (va_runV (As := As) (rest := st) ⟨hx, hb, hml, hown, hts⟩ (hM l) (cwV n hts hG hw hrc hrs hq hR) ⟨PU.blind, va_recv hK hP hc he, fun U hU hW => ⟨rfl, ⟨by rw [hU]; exact hP, va_K.moved hW.alike hK, NW.warm hW hN⟩⟩⟩ rfl hn hl.1 rfl (lv_room hcat) hd ⟨hc9, hs8⟩) hS (fun q _ h9 => hAA q h9) (fun q h9 => hAA q h9) (fun u t H1 locs1 ht _ hw9 hB _ _ hS1 => h u hw9 H1 locs1 ls (by rw [← ht]; exact hB) hS1 hl)
theorem jm_callSv {y : MethodName} {idx maxL n : Nat} {bytes : ByteArray} {ret : Option FieldType} {ws ws' : List Cond} {rmc : Room} {As stk : List Value} {post : ST → Prop} (hκ : CF κ g own cc Ts nL rm) (hM : ∀ l, Met l y ws rmc (va_Pc As (PU g X M)) (va_Qv post (fun Y t => va_P g.1 vwCl (ww g X Y) t.heap) (wA g)) 0 0 (wA g)) (hw : ws = Cond.code y bytes maxL ret :: ws') (hrc : rmc.cells = 0) (hrs : rmc.slots = 0) (hG : GoodIn Ts (va_wsS own idx y ws)) (hq : y.cls ≠ "java/lang/invoke/MethodHandle" ∧ y.cls ≠ "java/lang/invoke/VarHandle" ∧ (parseMethodDescriptor y.desc).map (fun d => d.parameters.length) = some n) (hR : rmc.frames + 1 ≤ rm.frames ∧ 8 + (maxL + 11) + rmc.locals ≤ rm.locals) (hn : As.length = n) (hst : stk = As.reverse ++ st) (hcat : (st.map fun v => v.category).sum ≤ 8) (hd : decode cc pc = .ok (.invokestatic idx, 3)) (ep : pc + 3 = pc') (h : ∀ (Y : ST), post Y → Jw κ g nL X Y lv pc' (st)) : Jw κ g nL X M lv pc stk := by
  obtain ⟨p, l, e, R, s, m, args, below, meth, c, cells, slots, Q, A⟩ := κ
  obtain ⟨hx, hb, hml, hown, hts, hK, hN, hD, hAA, rfl, hc9, hs8, hg⟩ := hκ
  subst ep
  subst hst
  intro H locs ls hP hS hl
  exact va_callv (va_runS (As := As) (rest := st) ⟨hx, hb, hml, hown, hts⟩ (hM l) (va_cwS n hts hG hw hrc hrs hq hR) ⟨PU.blind, fun U hU hW => ⟨rfl, ⟨by rw [hU]; exact hP, va_K.moved hW.alike hK, NW.warm hW hN⟩⟩⟩ rfl hn hl.1 rfl (lv_room hcat) hd ⟨hc9, hs8⟩) hS (fun q _ h9 => hAA q h9) (fun q h9 => hAA q h9) (fun u t H1 locs1 ht _ hw9 hB _ _ hS1 => h u hw9 H1 locs1 ls (by rw [← ht]; exact hB) hS1 hl)
theorem jm_callNv {y : MethodName} {idx maxL n : Nat} {bytes : ByteArray} {ret : Option FieldType} {ws ws' : List Cond} {rmc : Room} {As stk : List Value} {post : ST → Prop} (hκ : CF κ g own cc Ts nL rm) (hM : ∀ l, Met l y ws rmc (va_Pc As (PU g X M)) (va_Qv post (fun Y t => va_P g.1 vwCl (ww g X Y) t.heap) (wA g)) 0 0 (wA g)) (hw : ws = Cond.code y bytes maxL ret :: ws') (hrc : rmc.cells = 0) (hrs : rmc.slots = 0) (hG : GoodIn Ts ws) (k9 : Nat) (hn9 : nwM[k9]? = some (own, idx, y)) (hi9 : Cond.initialized y.cls ∈ Ts) (hs9 : Cond.static y ∈ Ts) (hq : y.cls ≠ "java/lang/invoke/MethodHandle" ∧ y.cls ≠ "java/lang/invoke/VarHandle" ∧ (parseMethodDescriptor y.desc).map (fun d => d.parameters.length) = some n) (hR : rmc.frames + 1 ≤ rm.frames ∧ 8 + (maxL + 11) + rmc.locals ≤ rm.locals) (hn : As.length = n) (hst : stk = As.reverse ++ st) (hcat : (st.map fun v => v.category).sum ≤ 8) (hd : decode cc pc = .ok (.invokestatic idx, 3)) (ep : pc + 3 = pc') (h : ∀ (Y : ST), post Y → Jw κ g nL X Y lv pc' (st)) : Jw κ g nL X M lv pc stk := by
  obtain ⟨p, l, e, R, s, m, args, below, meth, c, cells, slots, Q, A⟩ := κ
  obtain ⟨hx, hb, hml, hown, hts, hK, hN, hD, hAA, rfl, hc9, hs8, hg⟩ := hκ
  subst ep
  subst hst
  intro H locs ls hP hS hl
  exact va_callv (va_runSN (As := As) (rest := st) ⟨hx, hb, hml, hown, hts⟩ (hM l) ⟨va_cnB n hts hG hw hrc hrs (hN.2 _ (List.mem_of_getElem? hn9)) (hts _ hi9) hq hR, hts _ hs9, trivial⟩ ⟨PU.blind, fun U hU hW => ⟨rfl, ⟨by rw [hU]; exact hP, va_K.moved hW.alike hK, NW.warm hW hN⟩⟩⟩ rfl hn hl.1 rfl (lv_room hcat) hd ⟨hc9, hs8⟩) hS (fun q _ h9 => hAA q h9) (fun q h9 => hAA q h9) (fun u t H1 locs1 ht _ hw9 hB _ _ hS1 => h u hw9 H1 locs1 ls (by rw [← ht]; exact hB) hS1 hl)
theorem jm_callVl {y : MethodName} {C : String} {T : u_T} {N ci q0 idx maxL b n : Nat} {bytes : ByteArray} {ret : Option FieldType} {ws ws' : List Cond} {rmc : Room} {fs As stk : List Value} {post : Int64 → ST → Prop} (hκ : CF κ g own cc Ts nL rm) (hM : ∀ l, Met l y ws rmc (va_Pc (.ref b :: As) (PU g X M)) (va_Ql post (fun Y t => va_P g.1 vwCl (ww g X Y) t.heap) (wA g)) 0 0 (wA g)) (hw : ws = Cond.code y bytes maxL ret :: ws') (hrc : rmc.cells = 0) (hrs : rmc.slots = 0) (hG : GoodIn Ts (wsV own idx C y ws)) (hq : y.cls = C ∧ y.cls ≠ "java/lang/invoke/MethodHandle" ∧ y.cls ≠ "java/lang/invoke/VarHandle" ∧ (parseMethodDescriptor y.desc).map (fun d => d.parameters.length) = some n) (hR : rmc.frames + 1 ≤ rm.frames ∧ 8 + (maxL + 11) + rmc.locals ≤ rm.locals) (he : (ww g X M)[q0]? = some (b, .inr (ci, fs))) (hc : vwCl[ci]? = some (C, T, N)) (hn : As.length = n) (hst : stk = As.reverse ++ .ref b :: st) (hcat : (st.map fun v => v.category).sum ≤ 8) (hd : decode cc pc = .ok (.invokevirtual idx, 3)) (ep : pc + 3 = pc') (h : ∀ (r : Int64) (Y : ST), post r Y → Jw κ g nL X Y lv pc' (.long r :: st)) : Jw κ g nL X M lv pc stk := by
  obtain ⟨p, l, e, R, s, m, args, below, meth, c, cells, slots, Q, A⟩ := κ
  obtain ⟨hx, hb, hml, hown, hts, hK, hN, hD, hAA, rfl, hc9, hs8, hg⟩ := hκ
  subst ep
  subst hst
  intro H locs ls hP hS hl
  exact va_calll (va_runV (As := As) (rest := st) ⟨hx, hb, hml, hown, hts⟩ (hM l) (cwV n hts hG hw hrc hrs hq hR) ⟨PU.blind, va_recv hK hP hc he, fun U hU hW => ⟨rfl, ⟨by rw [hU]; exact hP, va_K.moved hW.alike hK, NW.warm hW hN⟩⟩⟩ rfl hn hl.1 rfl (lv_room hcat) hd ⟨hc9, hs8⟩) hS (fun q _ h9 => hAA q h9) (fun q h9 => hAA q h9) (fun r u t H1 locs1 ht _ hw9 hB _ _ hS1 => h r u hw9 H1 locs1 ls (by rw [← ht]; exact hB) hS1 hl)
theorem jm_callSl {y : MethodName} {idx maxL n : Nat} {bytes : ByteArray} {ret : Option FieldType} {ws ws' : List Cond} {rmc : Room} {As stk : List Value} {post : Int64 → ST → Prop} (hκ : CF κ g own cc Ts nL rm) (hM : ∀ l, Met l y ws rmc (va_Pc As (PU g X M)) (va_Ql post (fun Y t => va_P g.1 vwCl (ww g X Y) t.heap) (wA g)) 0 0 (wA g)) (hw : ws = Cond.code y bytes maxL ret :: ws') (hrc : rmc.cells = 0) (hrs : rmc.slots = 0) (hG : GoodIn Ts (va_wsS own idx y ws)) (hq : y.cls ≠ "java/lang/invoke/MethodHandle" ∧ y.cls ≠ "java/lang/invoke/VarHandle" ∧ (parseMethodDescriptor y.desc).map (fun d => d.parameters.length) = some n) (hR : rmc.frames + 1 ≤ rm.frames ∧ 8 + (maxL + 11) + rmc.locals ≤ rm.locals) (hn : As.length = n) (hst : stk = As.reverse ++ st) (hcat : (st.map fun v => v.category).sum ≤ 8) (hd : decode cc pc = .ok (.invokestatic idx, 3)) (ep : pc + 3 = pc') (h : ∀ (r : Int64) (Y : ST), post r Y → Jw κ g nL X Y lv pc' (.long r :: st)) : Jw κ g nL X M lv pc stk := by
  obtain ⟨p, l, e, R, s, m, args, below, meth, c, cells, slots, Q, A⟩ := κ
  obtain ⟨hx, hb, hml, hown, hts, hK, hN, hD, hAA, rfl, hc9, hs8, hg⟩ := hκ
  subst ep
  subst hst
  intro H locs ls hP hS hl
  exact va_calll (va_runS (As := As) (rest := st) ⟨hx, hb, hml, hown, hts⟩ (hM l) (va_cwS n hts hG hw hrc hrs hq hR) ⟨PU.blind, fun U hU hW => ⟨rfl, ⟨by rw [hU]; exact hP, va_K.moved hW.alike hK, NW.warm hW hN⟩⟩⟩ rfl hn hl.1 rfl (lv_room hcat) hd ⟨hc9, hs8⟩) hS (fun q _ h9 => hAA q h9) (fun q h9 => hAA q h9) (fun r u t H1 locs1 ht _ hw9 hB _ _ hS1 => h r u hw9 H1 locs1 ls (by rw [← ht]; exact hB) hS1 hl)
theorem jm_callNl {y : MethodName} {idx maxL n : Nat} {bytes : ByteArray} {ret : Option FieldType} {ws ws' : List Cond} {rmc : Room} {As stk : List Value} {post : Int64 → ST → Prop} (hκ : CF κ g own cc Ts nL rm) (hM : ∀ l, Met l y ws rmc (va_Pc As (PU g X M)) (va_Ql post (fun Y t => va_P g.1 vwCl (ww g X Y) t.heap) (wA g)) 0 0 (wA g)) (hw : ws = Cond.code y bytes maxL ret :: ws') (hrc : rmc.cells = 0) (hrs : rmc.slots = 0) (hG : GoodIn Ts ws) (k9 : Nat) (hn9 : nwM[k9]? = some (own, idx, y)) (hi9 : Cond.initialized y.cls ∈ Ts) (hs9 : Cond.static y ∈ Ts) (hq : y.cls ≠ "java/lang/invoke/MethodHandle" ∧ y.cls ≠ "java/lang/invoke/VarHandle" ∧ (parseMethodDescriptor y.desc).map (fun d => d.parameters.length) = some n) (hR : rmc.frames + 1 ≤ rm.frames ∧ 8 + (maxL + 11) + rmc.locals ≤ rm.locals) (hn : As.length = n) (hst : stk = As.reverse ++ st) (hcat : (st.map fun v => v.category).sum ≤ 8) (hd : decode cc pc = .ok (.invokestatic idx, 3)) (ep : pc + 3 = pc') (h : ∀ (r : Int64) (Y : ST), post r Y → Jw κ g nL X Y lv pc' (.long r :: st)) : Jw κ g nL X M lv pc stk := by
  obtain ⟨p, l, e, R, s, m, args, below, meth, c, cells, slots, Q, A⟩ := κ
  obtain ⟨hx, hb, hml, hown, hts, hK, hN, hD, hAA, rfl, hc9, hs8, hg⟩ := hκ
  subst ep
  subst hst
  intro H locs ls hP hS hl
  exact va_calll (va_runSN (As := As) (rest := st) ⟨hx, hb, hml, hown, hts⟩ (hM l) ⟨va_cnB n hts hG hw hrc hrs (hN.2 _ (List.mem_of_getElem? hn9)) (hts _ hi9) hq hR, hts _ hs9, trivial⟩ ⟨PU.blind, fun U hU hW => ⟨rfl, ⟨by rw [hU]; exact hP, va_K.moved hW.alike hK, NW.warm hW hN⟩⟩⟩ rfl hn hl.1 rfl (lv_room hcat) hd ⟨hc9, hs8⟩) hS (fun q _ h9 => hAA q h9) (fun q h9 => hAA q h9) (fun r u t H1 locs1 ht _ hw9 hB _ _ hS1 => h r u hw9 H1 locs1 ls (by rw [← ht]; exact hB) hS1 hl)
theorem jx_callVr {y : MethodName} {C : String} {T : u_T} {N ci q0 idx maxL b n : Nat} {bytes : ByteArray} {ret : Option FieldType} {ws ws' : List Cond} {rmc : Room} {fs As stk : List Value} {post : Nat → ST → Prop} (hκ : CF κ g own cc Ts nL rm) (hM : ∀ l, Met l y ws rmc (va_Pc (.ref b :: As) (PU g X M)) (va_Qr (fun u : Nat × ST => u.1 < 40 ∧ post u.1 u.2) (fun (u : Nat × ST) a t => a = g.2.1 (u.1 + 100) ∧ va_P g.1 vwCl (ww g u.2 M) t.heap) (wA g)) 0 0 (wA g)) (hw : ws = Cond.code y bytes maxL ret :: ws') (hrc : rmc.cells = 0) (hrs : rmc.slots = 0) (hG : GoodIn Ts (wsV own idx C y ws)) (hq : y.cls = C ∧ y.cls ≠ "java/lang/invoke/MethodHandle" ∧ y.cls ≠ "java/lang/invoke/VarHandle" ∧ (parseMethodDescriptor y.desc).map (fun d => d.parameters.length) = some n) (hR : rmc.frames + 1 ≤ rm.frames ∧ 8 + (maxL + 11) + rmc.locals ≤ rm.locals) (he : (ww g X M)[q0]? = some (b, .inr (ci, fs))) (hc : vwCl[ci]? = some (C, T, N)) (hn : As.length = n) (hst : stk = As.reverse ++ .ref b :: st) (hcat : (st.map fun v => v.category).sum ≤ 8) (hd : decode cc pc = .ok (.invokevirtual idx, 3)) (ep : pc + 3 = pc') (h : ∀ (i : Nat) (Y : ST), i < 40 → post i Y → Jw κ g nL Y M lv pc' (.ref (g.2.1 (i + 100)) :: st)) : Jw κ g nL X M lv pc stk := by
  obtain ⟨p, l, e, R, s, m, args, below, meth, c, cells, slots, Q, A⟩ := κ
  obtain ⟨hx, hb, hml, hown, hts, hK, hN, hD, hAA, rfl, hc9, hs8, hg⟩ := hκ
  subst ep
  subst hst
  intro H locs ls hP hS hl
  exact va_callr (va_runV (As := As) (rest := st) ⟨hx, hb, hml, hown, hts⟩ (hM l) (cwV n hts hG hw hrc hrs hq hR) ⟨PU.blind, va_recv hK hP hc he, fun U hU hW => ⟨rfl, ⟨by rw [hU]; exact hP, va_K.moved hW.alike hK, NW.warm hW hN⟩⟩⟩ rfl hn hl.1 rfl (lv_room hcat) hd ⟨hc9, hs8⟩) hS (fun q _ h9 => hAA q h9) (fun q h9 => hAA q h9) (fun u a t H1 locs1 ht _ hw9 hB _ _ hS1 => by
    obtain ⟨rfl, hB⟩ := hB
    exact h u.1 u.2 hw9.1 hw9.2 H1 locs1 ls (by rw [← ht]; exact hB) hS1 hl)
end JR
def bz (v : Int32) : Prop := v = 0 ∨ v = 1
theorem bz.nar {v : Int32} (h : bz v) : narrow .boolean (.int v) = .int v := by rcases h with rfl | rfl <;> rfl
theorem bz.fit {v : Int32} (h : bz v) : fits .boolean (.int v) = true := by rcases h with rfl | rfl <;> rfl
def RtxI (κ : Cx) (g : Gx) (nL : Nat) (cc : ByteArray) (M : ST) (post : Int32 → ST → Prop) : Prop := ∀ (Y : ST) (r : Int32) (lv : List (Nat × Value)) (pc : Nat), decode cc pc = .ok (.ireturn, 1) → post r Y → Jw κ g nL Y M lv pc [.int r]
theorem met_xi {g : Gx} (hg : Dg g) {y : MethodName} {ws ws' : List Cond} {cc : ByteArray} {nL fr lo : Nat} {X M : ST} {post : Int32 → ST → Prop} (hy : plainName y.cls = true) (hw : ws = Cond.code y cc nL (some .int) :: ws') (vs : List Value) {lv : List (Nat × Value)} (hv : lv_args 0 vs = lv) (hlen : (lg_sl vs).length ≤ nL)
    (body : ∀ κ, CF κ g y.cls cc ws nL { frames := fr, cells := 0, slots := 0, locals := lo } → RtxI κ g nL cc M post → Jw κ g nL X M lv 0 []) (l : Launch) : Met l y ws { frames := fr, cells := 0, slots := 0, locals := lo } (va_Pc vs (PU g X M)) (va_Qi post (fun Y t => va_P g.1 vwCl (ww g Y M) t.heap) (wA g)) 0 0 (wA g) := by
  refine Met.ofW (cc := cc) (maxL := nL) (ret := (some .int)) hy hw ?_
  intro p e s m args below meth c s₁ B hml hv9
  obtain ⟨rfl, hP0, hK, hN⟩ := hv9
  have hx := B.exec
  have hb := B.bytes
  have hr := B.returns
  have hts := atoms_spec (ws := ws) B.pre
  have hown : s.vm.findClass y.cls = some m.cls := findClass_of_methodNamed B.named
  have hlocks := B.notSynchronized
  have hl := lv_entry vs (n := nL) hlen
  rw [lg_entry_eq]
  rw [hv] at hl
  refine body (p, l, e, _, s, m, vs.toArray, below, meth, c, 0, 0, _, wA g) ⟨hx, hb, hml, hown, hts, hK, hN, hg, fun _ h => h, rfl, Nat.le_refl 0, Nat.le_refl 0, hg⟩ ?_ s.heap [] _ hP0 va_S.rf hl
  intro Y r lv9 pc hd hp H locs ls hP hS _
  exact W.iret (v := r) hx hb hr (fun t ht hW => ⟨⟨r, Y, rfl, hp, by rw [← ht] at hP; exact hP⟩, hS.F ht⟩) hS.2.2 hd hlocks
def RtxZ (κ : Cx) (g : Gx) (nL : Nat) (cc : ByteArray) (M : ST) (post : Int32 → ST → Prop) : Prop := ∀ (Y : ST) (r : Int32) (lv : List (Nat × Value)) (pc : Nat), decode cc pc = .ok (.ireturn, 1) → bz r → post r Y → Jw κ g nL Y M lv pc [.int r]
theorem met_xz {g : Gx} (hg : Dg g) {y : MethodName} {ws ws' : List Cond} {cc : ByteArray} {nL fr lo : Nat} {X M : ST} {post : Int32 → ST → Prop} (hy : plainName y.cls = true) (hw : ws = Cond.code y cc nL (some .boolean) :: ws') (vs : List Value) {lv : List (Nat × Value)} (hv : lv_args 0 vs = lv) (hlen : (lg_sl vs).length ≤ nL)
    (body : ∀ κ, CF κ g y.cls cc ws nL { frames := fr, cells := 0, slots := 0, locals := lo } → RtxZ κ g nL cc M post → Jw κ g nL X M lv 0 []) (l : Launch) : Met l y ws { frames := fr, cells := 0, slots := 0, locals := lo } (va_Pc vs (PU g X M)) (va_Qi post (fun Y t => va_P g.1 vwCl (ww g Y M) t.heap) (wA g)) 0 0 (wA g) := by
  refine Met.ofW (cc := cc) (maxL := nL) (ret := (some .boolean)) hy hw ?_
  intro p e s m args below meth c s₁ B hml hv9
  obtain ⟨rfl, hP0, hK, hN⟩ := hv9
  have hx := B.exec
  have hb := B.bytes
  have hr := B.returns
  have hts := atoms_spec (ws := ws) B.pre
  have hown : s.vm.findClass y.cls = some m.cls := findClass_of_methodNamed B.named
  have hlocks := B.notSynchronized
  have hl := lv_entry vs (n := nL) hlen
  rw [lg_entry_eq]
  rw [hv] at hl
  refine body (p, l, e, _, s, m, vs.toArray, below, meth, c, 0, 0, _, wA g) ⟨hx, hb, hml, hown, hts, hK, hN, hg, fun _ h => h, rfl, Nat.le_refl 0, Nat.le_refl 0, hg⟩ ?_ s.heap [] _ hP0 va_S.rf hl
  intro Y r lv9 pc hd hz hp H locs ls hP hS _
  exact W.zret (v := r) hx hb hr hz.nar (fun t ht hW => ⟨⟨r, Y, rfl, hp, by rw [← ht] at hP; exact hP⟩, hS.F ht⟩) hS.2.2 hd hlocks
def RtxL (κ : Cx) (g : Gx) (nL : Nat) (cc : ByteArray) (M : ST) (post : Int64 → ST → Prop) : Prop := ∀ (Y : ST) (r : Int64) (lv : List (Nat × Value)) (pc : Nat), decode cc pc = .ok (.lreturn, 1) → post r Y → Jw κ g nL Y M lv pc [.long r]
theorem met_xl {g : Gx} (hg : Dg g) {y : MethodName} {ws ws' : List Cond} {cc : ByteArray} {nL fr lo : Nat} {X M : ST} {post : Int64 → ST → Prop} (hy : plainName y.cls = true) (hw : ws = Cond.code y cc nL (some .long) :: ws') (vs : List Value) {lv : List (Nat × Value)} (hv : lv_args 0 vs = lv) (hlen : (lg_sl vs).length ≤ nL)
    (body : ∀ κ, CF κ g y.cls cc ws nL { frames := fr, cells := 0, slots := 0, locals := lo } → RtxL κ g nL cc M post → Jw κ g nL X M lv 0 []) (l : Launch) : Met l y ws { frames := fr, cells := 0, slots := 0, locals := lo } (va_Pc vs (PU g X M)) (va_Ql post (fun Y t => va_P g.1 vwCl (ww g Y M) t.heap) (wA g)) 0 0 (wA g) := by
  refine Met.ofW (cc := cc) (maxL := nL) (ret := (some .long)) hy hw ?_
  intro p e s m args below meth c s₁ B hml hv9
  obtain ⟨rfl, hP0, hK, hN⟩ := hv9
  have hx := B.exec
  have hb := B.bytes
  have hr := B.returns
  have hts := atoms_spec (ws := ws) B.pre
  have hown : s.vm.findClass y.cls = some m.cls := findClass_of_methodNamed B.named
  have hlocks := B.notSynchronized
  have hl := lv_entry vs (n := nL) hlen
  rw [lg_entry_eq]
  rw [hv] at hl
  refine body (p, l, e, _, s, m, vs.toArray, below, meth, c, 0, 0, _, wA g) ⟨hx, hb, hml, hown, hts, hK, hN, hg, fun _ h => h, rfl, Nat.le_refl 0, Nat.le_refl 0, hg⟩ ?_ s.heap [] _ hP0 va_S.rf hl
  intro Y r lv9 pc hd hp H locs ls hP hS _
  exact W.lret (v := r) hx hb hr (fun t ht hW => ⟨⟨r, Y, rfl, hp, by rw [← ht] at hP; exact hP⟩, hS.F ht⟩) hS.2.2 hd hlocks
def RtxV (κ : Cx) (g : Gx) (nL : Nat) (cc : ByteArray) (M : ST) (post : ST → Prop) : Prop := ∀ (Y : ST) (lv : List (Nat × Value)) (pc : Nat), decode cc pc = .ok (.return_, 1) → post Y → Jw κ g nL Y M lv pc []
theorem met_xv {g : Gx} (hg : Dg g) {y : MethodName} {ws ws' : List Cond} {cc : ByteArray} {nL fr lo : Nat} {X M : ST} {post : ST → Prop} (hy : plainName y.cls = true) (hw : ws = Cond.code y cc nL none :: ws') (vs : List Value) {lv : List (Nat × Value)} (hv : lv_args 0 vs = lv) (hlen : (lg_sl vs).length ≤ nL)
    (body : ∀ κ, CF κ g y.cls cc ws nL { frames := fr, cells := 0, slots := 0, locals := lo } → RtxV κ g nL cc M post → Jw κ g nL X M lv 0 []) (l : Launch) : Met l y ws { frames := fr, cells := 0, slots := 0, locals := lo } (va_Pc vs (PU g X M)) (va_Qv post (fun Y t => va_P g.1 vwCl (ww g Y M) t.heap) (wA g)) 0 0 (wA g) := by
  refine Met.ofW (cc := cc) (maxL := nL) (ret := none) hy hw ?_
  intro p e s m args below meth c s₁ B hml hv9
  obtain ⟨rfl, hP0, hK, hN⟩ := hv9
  have hx := B.exec
  have hb := B.bytes
  have hr := B.returns
  have hts := atoms_spec (ws := ws) B.pre
  have hown : s.vm.findClass y.cls = some m.cls := findClass_of_methodNamed B.named
  have hlocks := B.notSynchronized
  have hl := lv_entry vs (n := nL) hlen
  rw [lg_entry_eq]
  rw [hv] at hl
  refine body (p, l, e, _, s, m, vs.toArray, below, meth, c, 0, 0, _, wA g) ⟨hx, hb, hml, hown, hts, hK, hN, hg, fun _ h => h, rfl, Nat.le_refl 0, Nat.le_refl 0, hg⟩ ?_ s.heap [] _ hP0 va_S.rf hl
  intro Y lv9 pc hd hp H locs ls hP hS _
  exact W.vret hx hb hr (fun t ht hW => ⟨⟨Y, rfl, hp, by rw [← ht] at hP; exact hP⟩, hS.F ht⟩) hS.2.2 hd hlocks
def RtmI (κ : Cx) (g : Gx) (nL : Nat) (cc : ByteArray) (X : ST) (post : Int32 → ST → Prop) : Prop := ∀ (Y : ST) (r : Int32) (lv : List (Nat × Value)) (pc : Nat), decode cc pc = .ok (.ireturn, 1) → post r Y → Jw κ g nL X Y lv pc [.int r]
theorem met_mi {g : Gx} (hg : Dg g) {y : MethodName} {ws ws' : List Cond} {cc : ByteArray} {nL fr lo : Nat} {X M : ST} {post : Int32 → ST → Prop} (hy : plainName y.cls = true) (hw : ws = Cond.code y cc nL (some .int) :: ws') (vs : List Value) {lv : List (Nat × Value)} (hv : lv_args 0 vs = lv) (hlen : (lg_sl vs).length ≤ nL)
    (body : ∀ κ, CF κ g y.cls cc ws nL { frames := fr, cells := 0, slots := 0, locals := lo } → RtmI κ g nL cc X post → Jw κ g nL X M lv 0 []) (l : Launch) : Met l y ws { frames := fr, cells := 0, slots := 0, locals := lo } (va_Pc vs (PU g X M)) (va_Qi post (fun Y t => va_P g.1 vwCl (ww g X Y) t.heap) (wA g)) 0 0 (wA g) := by
  refine Met.ofW (cc := cc) (maxL := nL) (ret := (some .int)) hy hw ?_
  intro p e s m args below meth c s₁ B hml hv9
  obtain ⟨rfl, hP0, hK, hN⟩ := hv9
  have hx := B.exec
  have hb := B.bytes
  have hr := B.returns
  have hts := atoms_spec (ws := ws) B.pre
  have hown : s.vm.findClass y.cls = some m.cls := findClass_of_methodNamed B.named
  have hlocks := B.notSynchronized
  have hl := lv_entry vs (n := nL) hlen
  rw [lg_entry_eq]
  rw [hv] at hl
  refine body (p, l, e, _, s, m, vs.toArray, below, meth, c, 0, 0, _, wA g) ⟨hx, hb, hml, hown, hts, hK, hN, hg, fun _ h => h, rfl, Nat.le_refl 0, Nat.le_refl 0, hg⟩ ?_ s.heap [] _ hP0 va_S.rf hl
  intro Y r lv9 pc hd hp H locs ls hP hS _
  exact W.iret (v := r) hx hb hr (fun t ht hW => ⟨⟨r, Y, rfl, hp, by rw [← ht] at hP; exact hP⟩, hS.F ht⟩) hS.2.2 hd hlocks
def RtmZ (κ : Cx) (g : Gx) (nL : Nat) (cc : ByteArray) (X : ST) (post : Int32 → ST → Prop) : Prop := ∀ (Y : ST) (r : Int32) (lv : List (Nat × Value)) (pc : Nat), decode cc pc = .ok (.ireturn, 1) → bz r → post r Y → Jw κ g nL X Y lv pc [.int r]
theorem met_mz {g : Gx} (hg : Dg g) {y : MethodName} {ws ws' : List Cond} {cc : ByteArray} {nL fr lo : Nat} {X M : ST} {post : Int32 → ST → Prop} (hy : plainName y.cls = true) (hw : ws = Cond.code y cc nL (some .boolean) :: ws') (vs : List Value) {lv : List (Nat × Value)} (hv : lv_args 0 vs = lv) (hlen : (lg_sl vs).length ≤ nL)
    (body : ∀ κ, CF κ g y.cls cc ws nL { frames := fr, cells := 0, slots := 0, locals := lo } → RtmZ κ g nL cc X post → Jw κ g nL X M lv 0 []) (l : Launch) : Met l y ws { frames := fr, cells := 0, slots := 0, locals := lo } (va_Pc vs (PU g X M)) (va_Qi post (fun Y t => va_P g.1 vwCl (ww g X Y) t.heap) (wA g)) 0 0 (wA g) := by
  refine Met.ofW (cc := cc) (maxL := nL) (ret := (some .boolean)) hy hw ?_
  intro p e s m args below meth c s₁ B hml hv9
  obtain ⟨rfl, hP0, hK, hN⟩ := hv9
  have hx := B.exec
  have hb := B.bytes
  have hr := B.returns
  have hts := atoms_spec (ws := ws) B.pre
  have hown : s.vm.findClass y.cls = some m.cls := findClass_of_methodNamed B.named
  have hlocks := B.notSynchronized
  have hl := lv_entry vs (n := nL) hlen
  rw [lg_entry_eq]
  rw [hv] at hl
  refine body (p, l, e, _, s, m, vs.toArray, below, meth, c, 0, 0, _, wA g) ⟨hx, hb, hml, hown, hts, hK, hN, hg, fun _ h => h, rfl, Nat.le_refl 0, Nat.le_refl 0, hg⟩ ?_ s.heap [] _ hP0 va_S.rf hl
  intro Y r lv9 pc hd hz hp H locs ls hP hS _
  exact W.zret (v := r) hx hb hr hz.nar (fun t ht hW => ⟨⟨r, Y, rfl, hp, by rw [← ht] at hP; exact hP⟩, hS.F ht⟩) hS.2.2 hd hlocks
def RtmL (κ : Cx) (g : Gx) (nL : Nat) (cc : ByteArray) (X : ST) (post : Int64 → ST → Prop) : Prop := ∀ (Y : ST) (r : Int64) (lv : List (Nat × Value)) (pc : Nat), decode cc pc = .ok (.lreturn, 1) → post r Y → Jw κ g nL X Y lv pc [.long r]
theorem met_ml {g : Gx} (hg : Dg g) {y : MethodName} {ws ws' : List Cond} {cc : ByteArray} {nL fr lo : Nat} {X M : ST} {post : Int64 → ST → Prop} (hy : plainName y.cls = true) (hw : ws = Cond.code y cc nL (some .long) :: ws') (vs : List Value) {lv : List (Nat × Value)} (hv : lv_args 0 vs = lv) (hlen : (lg_sl vs).length ≤ nL)
    (body : ∀ κ, CF κ g y.cls cc ws nL { frames := fr, cells := 0, slots := 0, locals := lo } → RtmL κ g nL cc X post → Jw κ g nL X M lv 0 []) (l : Launch) : Met l y ws { frames := fr, cells := 0, slots := 0, locals := lo } (va_Pc vs (PU g X M)) (va_Ql post (fun Y t => va_P g.1 vwCl (ww g X Y) t.heap) (wA g)) 0 0 (wA g) := by
  refine Met.ofW (cc := cc) (maxL := nL) (ret := (some .long)) hy hw ?_
  intro p e s m args below meth c s₁ B hml hv9
  obtain ⟨rfl, hP0, hK, hN⟩ := hv9
  have hx := B.exec
  have hb := B.bytes
  have hr := B.returns
  have hts := atoms_spec (ws := ws) B.pre
  have hown : s.vm.findClass y.cls = some m.cls := findClass_of_methodNamed B.named
  have hlocks := B.notSynchronized
  have hl := lv_entry vs (n := nL) hlen
  rw [lg_entry_eq]
  rw [hv] at hl
  refine body (p, l, e, _, s, m, vs.toArray, below, meth, c, 0, 0, _, wA g) ⟨hx, hb, hml, hown, hts, hK, hN, hg, fun _ h => h, rfl, Nat.le_refl 0, Nat.le_refl 0, hg⟩ ?_ s.heap [] _ hP0 va_S.rf hl
  intro Y r lv9 pc hd hp H locs ls hP hS _
  exact W.lret (v := r) hx hb hr (fun t ht hW => ⟨⟨r, Y, rfl, hp, by rw [← ht] at hP; exact hP⟩, hS.F ht⟩) hS.2.2 hd hlocks
def RtmV (κ : Cx) (g : Gx) (nL : Nat) (cc : ByteArray) (X : ST) (post : ST → Prop) : Prop := ∀ (Y : ST) (lv : List (Nat × Value)) (pc : Nat), decode cc pc = .ok (.return_, 1) → post Y → Jw κ g nL X Y lv pc []
theorem met_mv {g : Gx} (hg : Dg g) {y : MethodName} {ws ws' : List Cond} {cc : ByteArray} {nL fr lo : Nat} {X M : ST} {post : ST → Prop} (hy : plainName y.cls = true) (hw : ws = Cond.code y cc nL none :: ws') (vs : List Value) {lv : List (Nat × Value)} (hv : lv_args 0 vs = lv) (hlen : (lg_sl vs).length ≤ nL)
    (body : ∀ κ, CF κ g y.cls cc ws nL { frames := fr, cells := 0, slots := 0, locals := lo } → RtmV κ g nL cc X post → Jw κ g nL X M lv 0 []) (l : Launch) : Met l y ws { frames := fr, cells := 0, slots := 0, locals := lo } (va_Pc vs (PU g X M)) (va_Qv post (fun Y t => va_P g.1 vwCl (ww g X Y) t.heap) (wA g)) 0 0 (wA g) := by
  refine Met.ofW (cc := cc) (maxL := nL) (ret := none) hy hw ?_
  intro p e s m args below meth c s₁ B hml hv9
  obtain ⟨rfl, hP0, hK, hN⟩ := hv9
  have hx := B.exec
  have hb := B.bytes
  have hr := B.returns
  have hts := atoms_spec (ws := ws) B.pre
  have hown : s.vm.findClass y.cls = some m.cls := findClass_of_methodNamed B.named
  have hlocks := B.notSynchronized
  have hl := lv_entry vs (n := nL) hlen
  rw [lg_entry_eq]
  rw [hv] at hl
  refine body (p, l, e, _, s, m, vs.toArray, below, meth, c, 0, 0, _, wA g) ⟨hx, hb, hml, hown, hts, hK, hN, hg, fun _ h => h, rfl, Nat.le_refl 0, Nat.le_refl 0, hg⟩ ?_ s.heap [] _ hP0 va_S.rf hl
  intro Y lv9 pc hd hp H locs ls hP hS _
  exact W.vret hx hb hr (fun t ht hW => ⟨⟨Y, rfl, hp, by rw [← ht] at hP; exact hP⟩, hS.F ht⟩) hS.2.2 hd hlocks
def RtxA (κ : Cx) (g : Gx) (nL : Nat) (cc : ByteArray) (M : ST) (post : Nat → ST → Prop) : Prop := ∀ (Y : ST) (i : Nat) (lv : List (Nat × Value)) (pc : Nat), decode cc pc = .ok (.areturn, 1) → i < 40 → post i Y → Jw κ g nL Y M lv pc [.ref (g.2.1 (i + 100))]
theorem met_xa {g : Gx} (hg : Dg g) {y : MethodName} {ws ws' : List Cond} {cc : ByteArray} {nL fr lo : Nat} {X M : ST} {post : Nat → ST → Prop} (hy : plainName y.cls = true) (hw : ws = Cond.code y cc nL (some (.array .int)) :: ws') (vs : List Value) {lv : List (Nat × Value)} (hv : lv_args 0 vs = lv) (hlen : (lg_sl vs).length ≤ nL)
    (body : ∀ κ, CF κ g y.cls cc ws nL { frames := fr, cells := 0, slots := 0, locals := lo } → RtxA κ g nL cc M post → Jw κ g nL X M lv 0 []) (l : Launch) : Met l y ws { frames := fr, cells := 0, slots := 0, locals := lo } (va_Pc vs (PU g X M)) (va_Qr (fun u : Nat × ST => u.1 < 40 ∧ post u.1 u.2) (fun (u : Nat × ST) a t => a = g.2.1 (u.1 + 100) ∧ va_P g.1 vwCl (ww g u.2 M) t.heap) (wA g)) 0 0 (wA g) := by
  refine Met.ofW (cc := cc) (maxL := nL) (ret := (some (.array .int))) hy hw ?_
  intro p e s m args below meth c s₁ B hml hv9
  obtain ⟨rfl, hP0, hK, hN⟩ := hv9
  have hx := B.exec
  have hb := B.bytes
  have hr := B.returns
  have hts := atoms_spec (ws := ws) B.pre
  have hown : s.vm.findClass y.cls = some m.cls := findClass_of_methodNamed B.named
  have hlocks := B.notSynchronized
  have hl := lv_entry vs (n := nL) hlen
  rw [lg_entry_eq]
  rw [hv] at hl
  refine body (p, l, e, _, s, m, vs.toArray, below, meth, c, 0, 0, _, wA g) ⟨hx, hb, hml, hown, hts, hK, hN, hg, fun _ h => h, rfl, Nat.le_refl 0, Nat.le_refl 0, hg⟩ ?_ s.heap [] _ hP0 va_S.rf hl
  intro Y i lv9 pc hd hi hp H locs ls hP hS _
  exact W.aret (v := .ref (g.2.1 (i + 100))) hx hb hr (Or.inr ⟨_, rfl⟩) (Or.inr ⟨_, rfl⟩) (fun t ht hW => ⟨⟨(i, Y), _, rfl, ⟨hi, hp⟩, rfl, by rw [← ht] at hP; exact hP⟩, hS.F ht⟩) hS.2.2 hd hlocks
