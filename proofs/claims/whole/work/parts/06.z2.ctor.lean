def PC (y : Cy) (ws : va_W) (sz : Nat) (U : State) : Prop := U.heap.size = sz ∧ va_P y.1 vwCl ws U.heap ∧ va_D (fun _ => True) ws ∧ va_K y.1 vwCl (ctys y) U ∧ NW U ∧ AOs U
theorem PC.blind {y : Cy} {ws : va_W} {sz : Nat} {vs : List Value} : FrameBlind (va_Pc vs (PC y ws sz)) := fun a U gf mk q => ⟨q.1, q.2.1, q.2.2.1, q.2.2.2.1, va_K.moved (u := U) (U := U.calling gf mk a) (Vm.Alike.refl U.vm) q.2.2.2.2.1, NW.same (u := U) rfl q.2.2.2.2.2.1, AOs.same (u := U) rfl q.2.2.2.2.2.2⟩
def RtC (κ : Cx) (y : Cy) (nL : Nat) (cc : ByteArray) {S : Type} (post : S → Prop) (Ef : S → va_W) (mc ms : Nat) : Prop := ∀ (u : S) (lv : List (Nat × Value)) (pc : Nat), decode cc pc = .ok (.return_, 1) → post u → Jc κ y nL (Ef u) mc ms lv pc []
theorem met_c {y : Cy} {ym : MethodName} {ws9 ws' : List Cond} {cc : ByteArray} {nL fr lo mc ms : Nat} {S : Type} {post : S → Prop} {Ef : S → va_W} {ws : va_W} (hy : plainName ym.cls = true) (hw : ws9 = Cond.code ym cc nL none :: ws') (vs : List Value) {lv : List (Nat × Value)} (hv : lv_args 0 vs = lv) (hlen : (lg_sl vs).length ≤ nL)
    (body : ∀ κ, CFc κ y ym.cls cc ws9 nL { frames := fr, cells := mc, slots := ms, locals := lo } → (ym.name = "<init>" → Ini κ) → RtC κ y nL cc post Ef mc ms → Jc κ y nL ws 0 0 lv 0 []) (l : Launch) (sz : Nat) : Met l ym ws9 { frames := fr, cells := mc, slots := ms, locals := lo } (va_Pc vs (PC y ws sz)) (va_Qv post (fun u t => va_P y.1 vwCl (Ef u) t.heap ∧ va_D (va_A ws sz) (Ef u)) (va_A ws sz)) mc ms (va_A ws sz) := by
  refine Met.ofW (cc := cc) (maxL := nL) (ret := none) hy hw ?_
  intro p e s m args below meth c s₁ B hml hv9
  obtain ⟨rfl, rfl, hP0, hD0, hK, hN, hO⟩ := hv9
  have hx := B.exec
  have hb := B.bytes
  have hr := B.returns
  have hts := atoms_spec (ws := ws9) B.pre
  have hown : s.vm.findClass ym.cls = some m.cls := findClass_of_methodNamed B.named
  have hlocks := B.notSynchronized
  have hin : meth.name = ym.name := (name_of_methodNamed B.named B.method).1
  have hl := lv_entry vs (n := nL) hlen
  rw [lg_entry_eq]
  rw [hv] at hl
  refine body (p, l, e, _, s, m, vs.toArray, below, meth, c, 0, 0, _, va_A ws s.heap.size) ⟨hx, hb, hml, hown, hts, hK, hN, hO, fun q h => Or.inr h, rfl⟩ (fun e => hin.trans e) ?_ s.heap [] _ hP0 hD0.self va_S.rf hl
  intro u lv9 pc hd hp H locs ls hP hD hS _
  exact W.vret hx hb hr (fun t ht hW => ⟨⟨u, rfl, hp, by rw [← ht] at hP; exact hP, hD⟩, hS.F ht⟩) hS.2.2 hd hlocks
section JC2
variable {κ : Cx} {y : Cy} {own : String} {cc : ByteArray} {Ts : List Cond} {nL : Nat} {rm : Room} {ws ws' : va_W} {cells slots cells' slots' : Nat} {lv : List (Nat × Value)} {pc pc' : Nat} {st : List Value}
theorem jc_callI {ym : MethodName} {idx maxL n a mc ms : Nat} {bytes : ByteArray} {ws9 ws8 : List Cond} {rmc : Room} {As stk : List Value} {S : Type} {post : S → Prop} {Ef : S → va_W} (hκ : CFc κ y own cc Ts nL rm) (hM : ∀ l sz, Met l ym ws9 rmc (va_Pc (.ref a :: As) (PC y ws sz)) (va_Qv post (fun u t => va_P y.1 vwCl (Ef u) t.heap ∧ va_D (va_A ws sz) (Ef u)) (va_A ws sz)) mc ms (va_A ws sz)) (hw : ws9 = Cond.code ym bytes maxL none :: ws8) (hrc : rmc.cells = mc) (hrs : rmc.slots = ms) (h1 : Cond.methodLink own idx ym ∈ Ts) (h2 : Cond.instanceMethod ym ∈ Ts) (h3 : Cond.initialized ym.cls ∈ Ts) (hG : GoodIn Ts ws9) (hnm : ym.name = "<init>") (hq : ym.cls ≠ "java/lang/invoke/MethodHandle" ∧ ym.cls ≠ "java/lang/invoke/VarHandle" ∧ (parseMethodDescriptor ym.desc).map (fun d => d.parameters.length) = some n) (hR : rmc.frames + 1 ≤ rm.frames ∧ 8 + (maxL + 11) + rmc.locals ≤ rm.locals) (hn : As.length = n) (hst : stk = As.reverse ++ .ref a :: st) (hcat : (st.map fun v => v.category).sum ≤ 8) (hcells : cells + mc = cells') (hslots : slots + ms = slots') (hc9 : cells' ≤ rm.cells) (hs9 : slots' ≤ rm.slots) (hd : decode cc pc = .ok (.invokespecial idx, 3)) (ep : pc + 3 = pc') (h : ∀ u : S, post u → Jc κ y nL (Ef u) cells' slots' lv pc' st) : Jc κ y nL ws cells slots lv pc stk := by
  obtain ⟨p, l, e, R, s, m, args, below, meth, c, c0, s0, Q, A⟩ := κ
  obtain ⟨hx, hb, hml, hown, hts, hK, hNw, hO, hA, rfl⟩ := hκ
  subst ep
  subst hst
  subst hcells
  subst hslots
  intro H locs ls hP hD hS hl
  have hAA : ∀ q, va_A ws H.size q → A q := fun q hq => by
    rcases hq with ⟨k, e9, hk⟩ | hq
    · exact hD.2 k _ hk
    · exact hA q (Nat.le_trans hS.1 hq)
  exact va_callv (va_runI (As := As) (rest := st) ⟨hx, hb, hml, hown, hts⟩ (hM l H.size) (cwI n hts hG hw hrc hrs (hts _ h3) (hts _ h1) (hts _ h2) hnm hq hR) ⟨PC.blind, fun U hU hW => ⟨rfl, by rw [hU], by rw [hU]; exact hP, hD.weaken (fun _ _ _ _ => trivial), va_K.moved hW.alike hK, NW.warm hW hNw, AOs.alike hW.alike hO⟩⟩ rfl hn hl.1 rfl (lv_room hcat) hd ⟨hc9, hs9⟩) hS (fun q _ h9 => hAA q h9) (fun q h9 => hAA q h9) (fun u t H1 locs1 ht _ hw9 hB _ _ hS1 => h u hw9 H1 locs1 ls (by rw [← ht]; exact hB.1) (hB.2.weaken (fun _ q _ h9 => hAA q.1 h9)) hS1 hl)
theorem jc_callN {ym : MethodName} {idx maxL n a mc ms : Nat} {bytes : ByteArray} {ws9 ws8 : List Cond} {rmc : Room} {As stk : List Value} {S : Type} {post : S → Prop} {Ef : S → va_W} (hκ : CFc κ y own cc Ts nL rm) (hM : ∀ l sz, Met l ym ws9 rmc (va_Pc (.ref a :: As) (PC y ws sz)) (va_Qv post (fun u t => va_P y.1 vwCl (Ef u) t.heap ∧ va_D (va_A ws sz) (Ef u)) (va_A ws sz)) mc ms (va_A ws sz)) (hw : ws9 = Cond.code ym bytes maxL none :: ws8) (hrc : rmc.cells = mc) (hrs : rmc.slots = ms) (k9 : Nat) (hn9 : nwM[k9]? = some (own, idx, ym)) (h2 : Cond.instanceMethod ym ∈ Ts) (h3 : Cond.initialized ym.cls ∈ Ts) (hG : GoodIn Ts ws9) (hnm : ym.name = "<init>") (hq : ym.cls ≠ "java/lang/invoke/MethodHandle" ∧ ym.cls ≠ "java/lang/invoke/VarHandle" ∧ (parseMethodDescriptor ym.desc).map (fun d => d.parameters.length) = some n) (hR : rmc.frames + 1 ≤ rm.frames ∧ 8 + (maxL + 11) + rmc.locals ≤ rm.locals) (hn : As.length = n) (hst : stk = As.reverse ++ .ref a :: st) (hcat : (st.map fun v => v.category).sum ≤ 8) (hcells : cells + mc = cells') (hslots : slots + ms = slots') (hc9 : cells' ≤ rm.cells) (hs9 : slots' ≤ rm.slots) (hd : decode cc pc = .ok (.invokespecial idx, 3)) (ep : pc + 3 = pc') (h : ∀ u : S, post u → Jc κ y nL (Ef u) cells' slots' lv pc' st) : Jc κ y nL ws cells slots lv pc stk := by
  obtain ⟨p, l, e, R, s, m, args, below, meth, c, c0, s0, Q, A⟩ := κ
  obtain ⟨hx, hb, hml, hown, hts, hK, hNw, hO, hA, rfl⟩ := hκ
  subst ep
  subst hst
  subst hcells
  subst hslots
  intro H locs ls hP hD hS hl
  have hAA : ∀ q, va_A ws H.size q → A q := fun q hq => by
    rcases hq with ⟨k, e9, hk⟩ | hq
    · exact hD.2 k _ hk
    · exact hA q (Nat.le_trans hS.1 hq)
  exact va_callv (va_runIN (As := As) (rest := st) ⟨hx, hb, hml, hown, hts⟩ (hM l H.size) ⟨va_cnB n hts hG hw hrc hrs (hNw.2 _ (List.mem_of_getElem? hn9)) (hts _ h3) hq hR, hnm, hts _ h2⟩ ⟨PC.blind, fun U hU hW => ⟨rfl, by rw [hU], by rw [hU]; exact hP, hD.weaken (fun _ _ _ _ => trivial), va_K.moved hW.alike hK, NW.warm hW hNw, AOs.alike hW.alike hO⟩⟩ rfl hn hl.1 rfl (lv_room hcat) hd ⟨hc9, hs9⟩) hS (fun q _ h9 => hAA q h9) (fun q h9 => hAA q h9) (fun u t H1 locs1 ht _ hw9 hB _ _ hS1 => h u hw9 H1 locs1 ls (by rw [← ht]; exact hB.1) (hB.2.weaken (fun _ q _ h9 => hAA q.1 h9)) hS1 hl)
theorem jc_callS {ym : MethodName} {idx maxL n mc ms : Nat} {bytes : ByteArray} {ws9 ws8 : List Cond} {rmc : Room} {As stk : List Value} {S : Type} {post : S → Prop} {Ef : S → va_W} (hκ : CFc κ y own cc Ts nL rm) (hM : ∀ l sz, Met l ym ws9 rmc (va_Pc As (PC y ws sz)) (va_Qv post (fun u t => va_P y.1 vwCl (Ef u) t.heap ∧ va_D (va_A ws sz) (Ef u)) (va_A ws sz)) mc ms (va_A ws sz)) (hw : ws9 = Cond.code ym bytes maxL none :: ws8) (hrc : rmc.cells = mc) (hrs : rmc.slots = ms) (hG : GoodIn Ts (va_wsS own idx ym ws9)) (hq : ym.cls ≠ "java/lang/invoke/MethodHandle" ∧ ym.cls ≠ "java/lang/invoke/VarHandle" ∧ (parseMethodDescriptor ym.desc).map (fun d => d.parameters.length) = some n) (hR : rmc.frames + 1 ≤ rm.frames ∧ 8 + (maxL + 11) + rmc.locals ≤ rm.locals) (hn : As.length = n) (hst : stk = As.reverse ++ st) (hcat : (st.map fun v => v.category).sum ≤ 8) (hcells : cells + mc = cells') (hslots : slots + ms = slots') (hc9 : cells' ≤ rm.cells) (hs9 : slots' ≤ rm.slots) (hd : decode cc pc = .ok (.invokestatic idx, 3)) (ep : pc + 3 = pc') (h : ∀ u : S, post u → Jc κ y nL (Ef u) cells' slots' lv pc' st) : Jc κ y nL ws cells slots lv pc stk := by
  obtain ⟨p, l, e, R, s, m, args, below, meth, c, c0, s0, Q, A⟩ := κ
  obtain ⟨hx, hb, hml, hown, hts, hK, hNw, hO, hA, rfl⟩ := hκ
  subst ep
  subst hst
  subst hcells
  subst hslots
  intro H locs ls hP hD hS hl
  have hAA : ∀ q, va_A ws H.size q → A q := fun q hq => by
    rcases hq with ⟨k, e9, hk⟩ | hq
    · exact hD.2 k _ hk
    · exact hA q (Nat.le_trans hS.1 hq)
  exact va_callv (va_runS (As := As) (rest := st) ⟨hx, hb, hml, hown, hts⟩ (hM l H.size) (va_cwS n hts hG hw hrc hrs hq hR) ⟨PC.blind, fun U hU hW => ⟨rfl, by rw [hU], by rw [hU]; exact hP, hD.weaken (fun _ _ _ _ => trivial), va_K.moved hW.alike hK, NW.warm hW hNw, AOs.alike hW.alike hO⟩⟩ rfl hn hl.1 rfl (lv_room hcat) hd ⟨hc9, hs9⟩) hS (fun q _ h9 => hAA q h9) (fun q h9 => hAA q h9) (fun u t H1 locs1 ht _ hw9 hB _ _ hS1 => h u hw9 H1 locs1 ls (by rw [← ht]; exact hB.1) (hB.2.weaken (fun _ q _ h9 => hAA q.1 h9)) hS1 hl)
end JC2
section JC3
variable {κ : Cx} {y : Cy} {own : String} {cc : ByteArray} {Ts : List Cond} {nL : Nat} {rm : Room} {ws : va_W} {cells slots : Nat} {lv : List (Nat × Value)} {pc pc' : Nat} {st : List Value}
theorem jc_sub {lv' : List (Nat × Value)} (ks : List Nat) (hl : lv_pick lv ks = lv') (h : Jc κ y nL ws cells slots lv' pc st) : Jc κ y nL ws cells slots lv pc st := by
  obtain ⟨p, l, e, R, s, m, args, below, meth, c, c0, s0, Q, A⟩ := κ
  intro H locs ls hP hD hS hl0
  exact h H locs ls hP hD hS (lv_sub hl0 ks hl)
theorem jc_istore_n {k : Fin 4} {i : Nat} {x : Int32} {lv' : List (Nat × Value)} (hκ : CFc κ y own cc Ts nL rm) (hn : i < nL) (hl0 : (i, Value.int x) :: lv.filter (fun q => !(q.1 == i) && !(q.1 + 1 == i && q.2.category == 2)) = lv') (hi : (k : Nat) = i) (hd : decode cc pc = .ok (.istore_n k, 1)) (ep : pc + 1 = pc') (h : Jc κ y nL ws cells slots lv' pc' st) : Jc κ y nL ws cells slots lv pc (.int x :: st) := by
  obtain ⟨p, l, e, R, s, m, args, below, meth, c, c0, s0, Q, A⟩ := κ
  obtain ⟨hx, hb, hml, hown, hts, hK, hNw, hO, hA, rfl⟩ := hκ
  subst ep
  intro H locs ls hP hD hS hl
  exact lv_istore_n hx hb hd hi hl hn hl0 (fun ls' hl' => h H locs ls' hP hD hS hl')
theorem jc_iinc {i : Nat} {n : Int} {x v : Int32} {lv' : List (Nat × Value)} (hκ : CFc κ y own cc Ts nL rm) (j : Nat) (hj : lv[j]? = some (i, .int x)) (hv : x + Int32.ofInt n = v) (hn : i < nL) (hl0 : (i, Value.int v) :: lv.filter (fun q => !(q.1 == i) && !(q.1 + 1 == i && q.2.category == 2)) = lv') (hd : decode cc pc = .ok (.iinc i n, 3)) (ep : pc + 3 = pc') (h : Jc κ y nL ws cells slots lv' pc' st) : Jc κ y nL ws cells slots lv pc st := by
  obtain ⟨p, l, e, R, s, m, args, below, meth, c, c0, s0, Q, A⟩ := κ
  obtain ⟨hx, hb, hml, hown, hts, hK, hNw, hO, hA, rfl⟩ := hκ
  subst ep
  intro H locs ls hP hD hS hl
  exact lv_iinc hx hb hd hl hj hv hn hl0 (fun ls' hl' => h H locs ls' hP hD hS hl')
theorem jc_goto {off : Int} (hκ : CFc κ y own cc Ts nL rm) (ht : (pc : Int) + off = (pc' : Int)) (hd : decode cc pc = .ok (.goto off, 3)) (h : Jc κ y nL ws cells slots lv pc' st) : Jc κ y nL ws cells slots lv pc st := by
  obtain ⟨p, l, e, R, s, m, args, below, meth, c, c0, s0, Q, A⟩ := κ
  obtain ⟨hx, hb, hml, hown, hts, hK, hNw, hO, hA, rfl⟩ := hκ
  intro H locs ls hP hD hS hl
  exact lv_goto hx hb hd ht (h H locs ls hP hD hS hl)
theorem jc_icmp_ge {x z : Int32} {off : Int} {tgt : Nat} (hκ : CFc κ y own cc Ts nL rm) (hd : decode cc pc = .ok (.if_icmp .ge off, 3)) (ht : (pc : Int) + off = (tgt : Int)) (ep : pc + 3 = pc') (kt : z ≤ x → Jc κ y nL ws cells slots lv tgt st) (kf : ¬ z ≤ x → Jc κ y nL ws cells slots lv pc' st) : Jc κ y nL ws cells slots lv pc (.int z :: .int x :: st) := by
  obtain ⟨p, l, e, R, s, m, args, below, meth, c, c0, s0, Q, A⟩ := κ
  obtain ⟨hx, hb, hml, hown, hts, hK, hNw, hO, hA, rfl⟩ := hκ
  subst ep
  intro H locs ls hP hD hS hl
  exact lv_icmp_ge hx hb hd ht (fun q => kt q H locs ls hP hD hS hl) (fun q => kf q H locs ls hP hD hS hl)
theorem jc_alen {a n : Nat} {f : Nat → Int32} {wf : va_W} (hκ : CFc κ y own cc Ts nL rm) (hd : decode cc pc = .ok (.arraylength, 1)) (ep : pc + 1 = pc') (h : Jc κ y nL ((a, .inl (y.2 0, n, .inl f)) :: wf) cells slots lv pc' (.int (Int32.ofNat n) :: st)) : Jc κ y nL ((a, .inl (y.2 0, n, .inl f)) :: wf) cells slots lv pc (.ref a :: st) := by
  obtain ⟨p, l, e, R, s, m, args, below, meth, c, c0, s0, Q, A⟩ := κ
  obtain ⟨hx, hb, hml, hown, hts, hK, hNw, hO, hA, rfl⟩ := hκ
  subst ep
  intro H locs ls hP hD hS hl
  exact va_alen hx hb hK hP 0 0 (x := (n, .inl f)) rfl (ty := .int) rfl rfl hd (h H locs ls hP hD hS hl)
theorem jc_iast {a n : Nat} {f : Nat → Int32} {wf : va_W} {i x : Int32} (hκ : CFc κ y own cc Ts nL rm) (hin : vp_in i n) (hd : decode cc pc = .ok (.iastore, 1)) (ep : pc + 1 = pc') (h : Jc κ y nL ((a, .inl (y.2 0, n, .inl (upd f i.toNatClampNeg x))) :: wf) cells slots lv pc' st) : Jc κ y nL ((a, .inl (y.2 0, n, .inl f)) :: wf) cells slots lv pc (.int x :: .int i :: .ref a :: st) := by
  obtain ⟨p, l, e, R, s, m, args, below, meth, c, c0, s0, Q, A⟩ := κ
  obtain ⟨hx, hb, hml, hown, hts, hK, hNw, hO, hA, rfl⟩ := hκ
  subst ep
  intro H locs ls hP hD hS hl
  exact va_iast hx hb hK hP hD hS 0 0 rfl rfl hin hd (fun H1 locs1 hP1 hD1 hS1 => h H1 locs1 ls hP1 hD1 hS1 hl)
end JC3
set_option maxHeartbeats 4000000 in
theorem kf_loop {κ : Cx} {y : Cy} {wf : va_W} {a n : Nat} {v : Int32} (hn : n < 2 ^ 31) (hκ : CFc κ y RJ7 cJ7_fill_53178 wq_J7_fill_53178 4 { frames := 0, cells := 0, slots := 0, locals := 0 }) (hR : RtC κ y 4 cJ7_fill_53178 (fun f : Nat → Int32 => ∀ i, i < n → f i = v) (fun f => (a, .inl (y.2 0, n, .inl f)) :: wf) 0 0) : ∀ (d i : Nat) (f : Nat → Int32), i + d = n → (∀ j, j < i → f j = v) → Jc κ y 4 ((a, .inl (y.2 0, n, .inl f)) :: wf) 0 0 [(0, .ref a), (1, .int v), (2, .int (nI i)), (3, .int (nI n))] 5 [] := by
  intro d
  induction d with
  | zero =>
    intro i f hi hf
    refine jc_iload_n (pc' := 6) hκ 2 rfl rfl dJ7_fill_53178_5 rfl ?_
    refine jc_iload_n (pc' := 7) hκ 3 rfl rfl dJ7_fill_53178_6 rfl ?_
    refine jc_icmp_ge (tgt := 20) (pc' := 10) hκ dJ7_fill_53178_7 (by decide) rfl (fun c => ?_) (fun c => ?_)
    · exact hR f _ _ dJ7_fill_53178_20 (fun j hj => hf j (by omega))
    · exact absurd (nI_le (by omega) (by omega)) c
  | succ d ih =>
    intro i f hi hf
    refine jc_iload_n (pc' := 6) hκ 2 rfl rfl dJ7_fill_53178_5 rfl ?_
    refine jc_iload_n (pc' := 7) hκ 3 rfl rfl dJ7_fill_53178_6 rfl ?_
    refine jc_icmp_ge (tgt := 20) (pc' := 10) hκ dJ7_fill_53178_7 (by decide) rfl (fun c => ?_) (fun c => ?_)
    · exact absurd c (nI_ge (by omega) (by omega))
    · refine jc_aload_n (pc' := 11) hκ 0 rfl rfl dJ7_fill_53178_10 rfl ?_
      refine jc_iload_n (pc' := 12) hκ 2 rfl rfl dJ7_fill_53178_11 rfl ?_
      refine jc_iload_n (pc' := 13) hκ 1 rfl rfl dJ7_fill_53178_12 rfl ?_
      refine jc_iast (pc' := 14) hκ (vp_in_nI (by omega) hn) dJ7_fill_53178_13 rfl ?_
      refine jc_iinc (pc' := 17) (n := 1) (v := nI (i + 1)) (lv' := [(2, .int (nI (i + 1))), (0, .ref a), (1, .int v), (3, .int (nI n))]) hκ 2 rfl (show nI i + Int32.ofInt 1 = nI (i + 1) from nI_1 i) (Nat.le_of_ble_eq_true rfl) rfl dJ7_fill_53178_14 rfl ?_
      refine jc_goto (pc' := 5) hκ (by decide) dJ7_fill_53178_17 ?_
      refine jc_sub [1, 2, 0, 3] rfl ?_
      refine ih (i + 1) _ (by omega) (fun j hj => ?_)
      rw [nI_clamp (by omega)]
      by_cases e : j = i
      · subst e; exact pk_us
      · rw [pk_un e]; exact hf j (by omega)
set_option maxHeartbeats 4000000 in
theorem k_fill {y : Cy} {wf : va_W} {a n : Nat} {v : Int32} {f0 : Nat → Int32} (hn : n < 2 ^ 31) : ∀ (l : Launch) (sz : Nat), Met l yJ7_fill_53178 wq_J7_fill_53178 { frames := 0, cells := 0, slots := 0, locals := 0 } (va_Pc [.ref a, .int v] (PC y ((a, .inl (y.2 0, n, .inl f0)) :: wf) sz)) (va_Qv (fun f : Nat → Int32 => ∀ i, i < n → f i = v) (fun f t => va_P y.1 vwCl ((a, .inl (y.2 0, n, .inl f)) :: wf) t.heap ∧ va_D (va_A ((a, .inl (y.2 0, n, .inl f0)) :: wf) sz) ((a, .inl (y.2 0, n, .inl f)) :: wf)) (va_A ((a, .inl (y.2 0, n, .inl f0)) :: wf) sz)) 0 0 (va_A ((a, .inl (y.2 0, n, .inl f0)) :: wf) sz) :=
  met_c (by decide) rfl [.ref a, .int v] rfl (Nat.le_of_ble_eq_true rfl) (fun κ hκ _ hR => by
    refine jc_iconst (pc' := 1) (v := 0) hκ (by decide) dJ7_fill_53178_0 rfl ?_
    refine jc_istore_n (pc' := 2) (lv' := [(2, .int 0), (0, .ref a), (1, .int v)]) hκ (Nat.le_of_ble_eq_true rfl) rfl rfl dJ7_fill_53178_1 rfl ?_
    refine jc_aload_n (pc' := 3) hκ 1 rfl rfl dJ7_fill_53178_2 rfl ?_
    refine jc_alen (pc' := 4) hκ dJ7_fill_53178_3 rfl ?_
    refine jc_istore_n (pc' := 5) (lv' := [(3, .int (nI n)), (2, .int 0), (0, .ref a), (1, .int v)]) hκ (Nat.le_of_ble_eq_true rfl) rfl rfl dJ7_fill_53178_4 rfl ?_
    refine jc_sub [2, 3, 1, 0] rfl ?_
    rw [← nI_0]
    exact kf_loop hn hκ hR n 0 f0 (by omega) (fun j hj => absurd hj (by omega)))

theorem wm_3_5 : Cond.methodLink RX4 3 objectInit ∈ wAll := inr_3 (List.mem_of_getElem? (i := 5) rfl)
theorem wm_1_11 : Cond.instanceMethod objectInit ∈ wAll := inr_1 (List.mem_of_getElem? (i := 11) rfl)
theorem wm_1_12 : Cond.code objectInit ⟨#[0xb1]⟩ 1 none ∈ wAll := inr_1 (List.mem_of_getElem? (i := 12) rfl)
theorem wm_3_6 : Cond.classLink RX4 9 "[[J" ∈ wAll := inr_3 (List.mem_of_getElem? (i := 6) rfl)
theorem wm_3_7 : Cond.arrayClass .long ∈ wAll := inr_3 (List.mem_of_getElem? (i := 7) rfl)
theorem wm_3_9 : Cond.arrayClass .int ∈ wAll := inr_3 (List.mem_of_getElem? (i := 9) rfl)
theorem wm_3_12 : Cond.methodLink RX4 23 yJ7_fill_53178 ∈ wAll := inr_3 (List.mem_of_getElem? (i := 12) rfl)
def ce_Rows (y : Cy) (a : Nat) (u : (Nat → Nat) × (Nat → Nat) × (Nat → Int32)) : va_W := [((u.1 2), .inl (y.2 0, 4, .inl u.2.2)), ((u.1 1), .inl (y.2 0, 4, .inl (fun _ => 0))), ((u.1 0), .inl (y.2 4, 4, .inr (.inr (.inr (.inr (fun i => if i < 4 then some (u.2.1 i) else none)))))), (a, .inr (4, [.ref (u.1 0), .ref (u.1 1), .ref (u.1 2)]))]
def cr_Rows (y : Cy) (u : (Nat → Nat) × (Nat → Nat) × (Nat → Int32)) : va_W := (List.range 4).map (fun i => (u.2.1 i, .inl (y.2 1, 50, .inr (.inl (fun _ => 0)))))
abbrev rk_Rows : Room := { frames := 1, cells := 7, slots := 212, locals := 43 }
set_option maxHeartbeats 4000000 in
set_option maxRecDepth 100000 in
theorem k_Rows {y : Cy} {wf : va_W} {a : Nat} : ∀ (l : Launch) (sz : Nat), Met l yX4_init wq_X4_init rk_Rows (va_Pc [.ref a] (PC y ((a, .inr (4, [.null, .null, .null])) :: wf) sz)) (va_Qv (fun u : (Nat → Nat) × (Nat → Nat) × (Nat → Int32) => ∀ i, i < 4 → u.2.2 i = -1) (fun u t => va_P y.1 vwCl (ce_Rows y a u ++ (cr_Rows y u ++ wf)) t.heap ∧ va_D (va_A ((a, .inr (4, [.null, .null, .null])) :: wf) sz) (ce_Rows y a u ++ (cr_Rows y u ++ wf))) (va_A ((a, .inr (4, [.null, .null, .null])) :: wf) sz)) 7 212 (va_A ((a, .inr (4, [.null, .null, .null])) :: wf) sz) :=
  met_c (by decide) rfl [.ref a] rfl (Nat.le_of_ble_eq_true rfl) (fun κ hκ hI hR => by
    show Jc κ y 1 ([(a, .inr (4, [.null, .null, .null]))] ++ wf) 0 0 [(0, .ref a)] 0 []
    refine jc_aload_n (pc' := 1) hκ 0 rfl rfl dX4_init_0 rfl ?_
    refine jc_obj (pc' := 4) hκ (mc wm_3_5) (mc wm_1_11) (mc wm_1_12) (Nat.le_of_ble_eq_true rfl) (Nat.le_of_ble_eq_true rfl) dX4_init_1 rfl ?_
    refine jc_aload_n (pc' := 5) hκ 0 rfl rfl dX4_init_4 rfl ?_
    refine jc_iconst (pc' := 6) (v := 4) hκ (by decide) dX4_init_5 rfl ?_
    refine jc_bipush (pc' := 8) (v := 50) hκ (by decide) dX4_init_6 rfl ?_
    refine jc_mnaJ (pc' := 12) (E := [(a, .inr (4, [.null, .null, .null]))]) (wf := wf) (N := 4) (K := 50) (cells' := 5) (slots' := 204) hκ (mc wm_3_6) (mc wm_3_7) (by decide) (by decide) rfl rfl (Nat.le_of_ble_eq_true rfl) (Nat.le_of_ble_eq_true rfl) (Nat.le_of_ble_eq_true rfl) rfl rfl (Nat.le_of_ble_eq_true rfl) (Nat.le_of_ble_eq_true rfl) dX4_init_8 rfl (fun q0 rr => ?_)
    show Jc κ y 1 ([(q0, .inl (y.2 4, 4, .inr (.inr (.inr (.inr (fun i => if i < 4 then some (rr i) else none)))))), (a, .inr (4, [.null, .null, .null]))] ++ ((List.range 4).map (fun i => (rr i, .inl (y.2 1, 50, .inr (.inl (fun _ => 0))))) ++ wf)) 5 204 [(0, .ref a)] 12 [.ref q0, .ref a]
    refine jc_putF (pc' := 15) (ws' := [(q0, .inl (y.2 4, 4, .inr (.inr (.inr (.inr (fun i => if i < 4 then some (rr i) else none)))))), (a, .inr (4, [.ref q0, .null, .null]))] ++ ((List.range 4).map (fun i => (rr i, .inl (y.2 1, 50, .inr (.inl (fun _ => 0))))) ++ wf)) (C := RX4) (T := TX4) (N := 3) (ci := 4) (ty := .array (.array .long)) hκ (hI rfl) (mi inlX4) tyX4 tyX4_ok nmX4 1 rfl rfl 0 (by decide) (mc wm_3_8) rfl rfl rfl (by decide +kernel) rfl rfl (Nat.le_of_ble_eq_true rfl) rfl dX4_init_12 rfl ?_
    refine jc_aload_n (pc' := 16) hκ 0 rfl rfl dX4_init_15 rfl ?_
    refine jc_iconst (pc' := 17) (v := 4) hκ (by decide) dX4_init_16 rfl ?_
    refine jc_newaI (pc' := 19) (N := 4) (cells' := 6) (slots' := 208) hκ (mc wm_3_9) (by decide) rfl (Nat.le_of_ble_eq_true rfl) rfl rfl (Nat.le_of_ble_eq_true rfl) (Nat.le_of_ble_eq_true rfl) dX4_init_17 rfl (fun q1 => ?_)
    show Jc κ y 1 ([(q1, .inl (y.2 0, 4, .inl (fun _ => 0))), (q0, .inl (y.2 4, 4, .inr (.inr (.inr (.inr (fun i => if i < 4 then some (rr i) else none)))))), (a, .inr (4, [.ref q0, .null, .null]))] ++ ((List.range 4).map (fun i => (rr i, .inl (y.2 1, 50, .inr (.inl (fun _ => 0))))) ++ wf)) 6 208 [(0, .ref a)] 19 [.ref q1, .ref a]
    refine jc_putF (pc' := 22) (ws' := [(q1, .inl (y.2 0, 4, .inl (fun _ => 0))), (q0, .inl (y.2 4, 4, .inr (.inr (.inr (.inr (fun i => if i < 4 then some (rr i) else none)))))), (a, .inr (4, [.ref q0, .ref q1, .null]))] ++ ((List.range 4).map (fun i => (rr i, .inl (y.2 1, 50, .inr (.inl (fun _ => 0))))) ++ wf)) (C := RX4) (T := TX4) (N := 3) (ci := 4) (ty := .array .int) hκ (hI rfl) (mi inlX4) tyX4 tyX4_ok nmX4 2 rfl rfl 1 (by decide) (mc wm_3_10) rfl rfl rfl (by decide +kernel) rfl rfl (Nat.le_of_ble_eq_true rfl) rfl dX4_init_19 rfl ?_
    refine jc_aload_n (pc' := 23) hκ 0 rfl rfl dX4_init_22 rfl ?_
    refine jc_iconst (pc' := 24) (v := 4) hκ (by decide) dX4_init_23 rfl ?_
    refine jc_newaI (pc' := 26) (N := 4) (cells' := 7) (slots' := 212) hκ (mc wm_3_9) (by decide) rfl (Nat.le_of_ble_eq_true rfl) rfl rfl (Nat.le_of_ble_eq_true rfl) (Nat.le_of_ble_eq_true rfl) dX4_init_24 rfl (fun q2 => ?_)
    show Jc κ y 1 ([(q2, .inl (y.2 0, 4, .inl (fun _ => 0))), (q1, .inl (y.2 0, 4, .inl (fun _ => 0))), (q0, .inl (y.2 4, 4, .inr (.inr (.inr (.inr (fun i => if i < 4 then some (rr i) else none)))))), (a, .inr (4, [.ref q0, .ref q1, .null]))] ++ ((List.range 4).map (fun i => (rr i, .inl (y.2 1, 50, .inr (.inl (fun _ => 0))))) ++ wf)) 7 212 [(0, .ref a)] 26 [.ref q2, .ref a]
    refine jc_putF (pc' := 29) (ws' := [(q2, .inl (y.2 0, 4, .inl (fun _ => 0))), (q1, .inl (y.2 0, 4, .inl (fun _ => 0))), (q0, .inl (y.2 4, 4, .inr (.inr (.inr (.inr (fun i => if i < 4 then some (rr i) else none)))))), (a, .inr (4, [.ref q0, .ref q1, .ref q2]))] ++ ((List.range 4).map (fun i => (rr i, .inl (y.2 1, 50, .inr (.inl (fun _ => 0))))) ++ wf)) (C := RX4) (T := TX4) (N := 3) (ci := 4) (ty := .array .int) hκ (hI rfl) (mi inlX4) tyX4 tyX4_ok nmX4 3 rfl rfl 2 (by decide) (mc wm_3_11) rfl rfl rfl (by decide +kernel) rfl rfl (Nat.le_of_ble_eq_true rfl) rfl dX4_init_26 rfl ?_
    refine jc_aload_n (pc' := 30) hκ 0 rfl rfl dX4_init_29 rfl ?_
    refine jc_get (pc' := 33) (C := RX4) (T := TX4) (N := 3) (ci := 4) hκ (mi inlX4) 3 rfl rfl 2 (by decide) (mc wm_3_11) rfl rfl dX4_init_30 rfl ?_
    refine jc_iconst (pc' := 34) (v := (-1)) hκ (by decide) dX4_init_33 rfl ?_
    refine jc_callS (pc' := 37) (cells' := 7) (slots' := 212) hκ (k_fill (y := y) (wf := [(q1, .inl (y.2 0, 4, .inl (fun _ => 0))), (q0, .inl (y.2 4, 4, .inr (.inr (.inr (.inr (fun i => if i < 4 then some (rr i) else none)))))), (a, .inr (4, [.ref q0, .ref q1, .ref q2]))] ++ ((List.range 4).map (fun i => (rr i, .inl (y.2 1, 50, .inr (.inl (fun _ => 0))))) ++ wf)) (a := q2) (n := 4) (v := -1) (f0 := fun _ => 0) (by decide)) rfl rfl rfl (gS wm_3_12 wm_3_13 wm_3_14 wm_3_15) hqS_J7_fill_53178 ⟨Nat.le_of_ble_eq_true rfl, Nat.le_of_ble_eq_true rfl⟩ rfl rfl (Nat.le_of_ble_eq_true rfl) rfl rfl (Nat.le_of_ble_eq_true rfl) (Nat.le_of_ble_eq_true rfl) dX4_init_34 rfl (fun ff hff => ?_)
    show Jc κ y 1 ([(q2, .inl (y.2 0, 4, .inl ff)), (q1, .inl (y.2 0, 4, .inl (fun _ => 0))), (q0, .inl (y.2 4, 4, .inr (.inr (.inr (.inr (fun i => if i < 4 then some (rr i) else none)))))), (a, .inr (4, [.ref q0, .ref q1, .ref q2]))] ++ ((List.range 4).map (fun i => (rr i, .inl (y.2 1, 50, .inr (.inl (fun _ => 0))))) ++ wf)) 7 212 [(0, .ref a)] 37 []
    exact hR ((fun i => [q0, q1, q2].getD i 0, rr, ff)) _ _ dX4_init_37 hff)
theorem wm_3_18 : Cond.methodLink RX7 3 objectInit ∈ wAll := inr_3 (List.mem_of_getElem? (i := 18) rfl)
theorem wm_3_22 : Cond.arrayClass .boolean ∈ wAll := inr_3 (List.mem_of_getElem? (i := 22) rfl)
theorem wm_4_0 : Cond.classLink RX7 25 "[[I" ∈ wAll := inr_4 (List.mem_of_getElem? (i := 0) rfl)
def ce_Town (y : Cy) (a : Nat) (u : (Nat → Nat) × (Nat → Nat) × (Nat → Int32)) : va_W := [((u.1 4), .inl (y.2 3, 40, .inr (.inr (.inr (.inr (fun i => if i < 40 then some (u.2.1 i) else none)))))), ((u.1 3), .inl (y.2 2, 100, .inl (fun _ => 0))), ((u.1 2), .inl (y.2 0, 100, .inl (fun _ => 0))), ((u.1 1), .inl (y.2 0, 100, .inl (fun _ => 0))), ((u.1 0), .inl (y.2 0, 100, .inl (fun _ => 0))), (a, .inr (7, [.ref (u.1 0), .ref (u.1 1), .ref (u.1 2), .ref (u.1 3), .ref (u.1 4), .long 0, .int 0]))]
def cr_Town (y : Cy) (u : (Nat → Nat) × (Nat → Nat) × (Nat → Int32)) : va_W := (List.range 40).map (fun i => (u.2.1 i, .inl (y.2 0, 40, .inl (fun _ => 0))))
abbrev rk_Town : Room := { frames := 1, cells := 45, slots := 2040, locals := 20 }
set_option maxHeartbeats 4000000 in
set_option maxRecDepth 100000 in
theorem k_Town {y : Cy} {wf : va_W} {a : Nat} : ∀ (l : Launch) (sz : Nat), Met l yX7_init wq_X7_init rk_Town (va_Pc [.ref a] (PC y ((a, .inr (7, [.null, .null, .null, .null, .null, .long 0, .int 0])) :: wf) sz)) (va_Qv (fun u : (Nat → Nat) × (Nat → Nat) × (Nat → Int32) => True) (fun u t => va_P y.1 vwCl (ce_Town y a u ++ (cr_Town y u ++ wf)) t.heap ∧ va_D (va_A ((a, .inr (7, [.null, .null, .null, .null, .null, .long 0, .int 0])) :: wf) sz) (ce_Town y a u ++ (cr_Town y u ++ wf))) (va_A ((a, .inr (7, [.null, .null, .null, .null, .null, .long 0, .int 0])) :: wf) sz)) 45 2040 (va_A ((a, .inr (7, [.null, .null, .null, .null, .null, .long 0, .int 0])) :: wf) sz) :=
  met_c (by decide) rfl [.ref a] rfl (Nat.le_of_ble_eq_true rfl) (fun κ hκ hI hR => by
    show Jc κ y 1 ([(a, .inr (7, [.null, .null, .null, .null, .null, .long 0, .int 0]))] ++ wf) 0 0 [(0, .ref a)] 0 []
    refine jc_aload_n (pc' := 1) hκ 0 rfl rfl dX7_init_0 rfl ?_
    refine jc_obj (pc' := 4) hκ (mc wm_3_18) (mc wm_1_11) (mc wm_1_12) (Nat.le_of_ble_eq_true rfl) (Nat.le_of_ble_eq_true rfl) dX7_init_1 rfl ?_
    refine jc_aload_n (pc' := 5) hκ 0 rfl rfl dX7_init_4 rfl ?_
    refine jc_bipush (pc' := 7) (v := 100) hκ (by decide) dX7_init_5 rfl ?_
    refine jc_newaI (pc' := 9) (N := 100) (cells' := 1) (slots' := 100) hκ (mc wm_3_9) (by decide) rfl (Nat.le_of_ble_eq_true rfl) rfl rfl (Nat.le_of_ble_eq_true rfl) (Nat.le_of_ble_eq_true rfl) dX7_init_7 rfl (fun q0 => ?_)
    show Jc κ y 1 ([(q0, .inl (y.2 0, 100, .inl (fun _ => 0))), (a, .inr (7, [.null, .null, .null, .null, .null, .long 0, .int 0]))] ++ wf) 1 100 [(0, .ref a)] 9 [.ref q0, .ref a]
    refine jc_putF (pc' := 12) (ws' := [(q0, .inl (y.2 0, 100, .inl (fun _ => 0))), (a, .inr (7, [.ref q0, .null, .null, .null, .null, .long 0, .int 0]))] ++ wf) (C := RX7) (T := TX7) (N := 7) (ci := 7) (ty := .array .int) hκ (hI rfl) (mi inlX7) tyX7 tyX7_ok nmX7 1 rfl rfl 0 (by decide) (mc wm_3_19) rfl rfl rfl (by decide +kernel) rfl rfl (Nat.le_of_ble_eq_true rfl) rfl dX7_init_9 rfl ?_
    refine jc_aload_n (pc' := 13) hκ 0 rfl rfl dX7_init_12 rfl ?_
    refine jc_bipush (pc' := 15) (v := 100) hκ (by decide) dX7_init_13 rfl ?_
    refine jc_newaI (pc' := 17) (N := 100) (cells' := 2) (slots' := 200) hκ (mc wm_3_9) (by decide) rfl (Nat.le_of_ble_eq_true rfl) rfl rfl (Nat.le_of_ble_eq_true rfl) (Nat.le_of_ble_eq_true rfl) dX7_init_15 rfl (fun q1 => ?_)
    show Jc κ y 1 ([(q1, .inl (y.2 0, 100, .inl (fun _ => 0))), (q0, .inl (y.2 0, 100, .inl (fun _ => 0))), (a, .inr (7, [.ref q0, .null, .null, .null, .null, .long 0, .int 0]))] ++ wf) 2 200 [(0, .ref a)] 17 [.ref q1, .ref a]
    refine jc_putF (pc' := 20) (ws' := [(q1, .inl (y.2 0, 100, .inl (fun _ => 0))), (q0, .inl (y.2 0, 100, .inl (fun _ => 0))), (a, .inr (7, [.ref q0, .ref q1, .null, .null, .null, .long 0, .int 0]))] ++ wf) (C := RX7) (T := TX7) (N := 7) (ci := 7) (ty := .array .int) hκ (hI rfl) (mi inlX7) tyX7 tyX7_ok nmX7 2 rfl rfl 1 (by decide) (mc wm_3_20) rfl rfl rfl (by decide +kernel) rfl rfl (Nat.le_of_ble_eq_true rfl) rfl dX7_init_17 rfl ?_
    refine jc_aload_n (pc' := 21) hκ 0 rfl rfl dX7_init_20 rfl ?_
    refine jc_bipush (pc' := 23) (v := 100) hκ (by decide) dX7_init_21 rfl ?_
    refine jc_newaI (pc' := 25) (N := 100) (cells' := 3) (slots' := 300) hκ (mc wm_3_9) (by decide) rfl (Nat.le_of_ble_eq_true rfl) rfl rfl (Nat.le_of_ble_eq_true rfl) (Nat.le_of_ble_eq_true rfl) dX7_init_23 rfl (fun q2 => ?_)
    show Jc κ y 1 ([(q2, .inl (y.2 0, 100, .inl (fun _ => 0))), (q1, .inl (y.2 0, 100, .inl (fun _ => 0))), (q0, .inl (y.2 0, 100, .inl (fun _ => 0))), (a, .inr (7, [.ref q0, .ref q1, .null, .null, .null, .long 0, .int 0]))] ++ wf) 3 300 [(0, .ref a)] 25 [.ref q2, .ref a]
    refine jc_putF (pc' := 28) (ws' := [(q2, .inl (y.2 0, 100, .inl (fun _ => 0))), (q1, .inl (y.2 0, 100, .inl (fun _ => 0))), (q0, .inl (y.2 0, 100, .inl (fun _ => 0))), (a, .inr (7, [.ref q0, .ref q1, .ref q2, .null, .null, .long 0, .int 0]))] ++ wf) (C := RX7) (T := TX7) (N := 7) (ci := 7) (ty := .array .int) hκ (hI rfl) (mi inlX7) tyX7 tyX7_ok nmX7 3 rfl rfl 2 (by decide) (mc wm_3_21) rfl rfl rfl (by decide +kernel) rfl rfl (Nat.le_of_ble_eq_true rfl) rfl dX7_init_25 rfl ?_
    refine jc_aload_n (pc' := 29) hκ 0 rfl rfl dX7_init_28 rfl ?_
    refine jc_bipush (pc' := 31) (v := 100) hκ (by decide) dX7_init_29 rfl ?_
    refine jc_newaZ (pc' := 33) (N := 100) (cells' := 4) (slots' := 400) hκ (mc wm_3_22) (by decide) rfl (Nat.le_of_ble_eq_true rfl) rfl rfl (Nat.le_of_ble_eq_true rfl) (Nat.le_of_ble_eq_true rfl) dX7_init_31 rfl (fun q3 => ?_)
    show Jc κ y 1 ([(q3, .inl (y.2 2, 100, .inl (fun _ => 0))), (q2, .inl (y.2 0, 100, .inl (fun _ => 0))), (q1, .inl (y.2 0, 100, .inl (fun _ => 0))), (q0, .inl (y.2 0, 100, .inl (fun _ => 0))), (a, .inr (7, [.ref q0, .ref q1, .ref q2, .null, .null, .long 0, .int 0]))] ++ wf) 4 400 [(0, .ref a)] 33 [.ref q3, .ref a]
    refine jc_putF (pc' := 36) (ws' := [(q3, .inl (y.2 2, 100, .inl (fun _ => 0))), (q2, .inl (y.2 0, 100, .inl (fun _ => 0))), (q1, .inl (y.2 0, 100, .inl (fun _ => 0))), (q0, .inl (y.2 0, 100, .inl (fun _ => 0))), (a, .inr (7, [.ref q0, .ref q1, .ref q2, .ref q3, .null, .long 0, .int 0]))] ++ wf) (C := RX7) (T := TX7) (N := 7) (ci := 7) (ty := .array .boolean) hκ (hI rfl) (mi inlX7) tyX7 tyX7_ok nmX7 4 rfl rfl 3 (by decide) (mc wm_3_23) rfl rfl rfl (by decide +kernel) rfl rfl (Nat.le_of_ble_eq_true rfl) rfl dX7_init_33 rfl ?_
    refine jc_aload_n (pc' := 37) hκ 0 rfl rfl dX7_init_36 rfl ?_
    refine jc_bipush (pc' := 39) (v := 40) hκ (by decide) dX7_init_37 rfl ?_
    refine jc_bipush (pc' := 41) (v := 40) hκ (by decide) dX7_init_39 rfl ?_
    refine jc_mnaI (pc' := 45) (E := [(q3, .inl (y.2 2, 100, .inl (fun _ => 0))), (q2, .inl (y.2 0, 100, .inl (fun _ => 0))), (q1, .inl (y.2 0, 100, .inl (fun _ => 0))), (q0, .inl (y.2 0, 100, .inl (fun _ => 0))), (a, .inr (7, [.ref q0, .ref q1, .ref q2, .ref q3, .null, .long 0, .int 0]))]) (wf := wf) (N := 40) (K := 40) (cells' := 45) (slots' := 2040) hκ (mc wm_4_0) (mc wm_3_9) (by decide) (by decide) rfl rfl (Nat.le_of_ble_eq_true rfl) (Nat.le_of_ble_eq_true rfl) (Nat.le_of_ble_eq_true rfl) rfl rfl (Nat.le_of_ble_eq_true rfl) (Nat.le_of_ble_eq_true rfl) dX7_init_41 rfl (fun q4 rr => ?_)
    show Jc κ y 1 ([(q4, .inl (y.2 3, 40, .inr (.inr (.inr (.inr (fun i => if i < 40 then some (rr i) else none)))))), (q3, .inl (y.2 2, 100, .inl (fun _ => 0))), (q2, .inl (y.2 0, 100, .inl (fun _ => 0))), (q1, .inl (y.2 0, 100, .inl (fun _ => 0))), (q0, .inl (y.2 0, 100, .inl (fun _ => 0))), (a, .inr (7, [.ref q0, .ref q1, .ref q2, .ref q3, .null, .long 0, .int 0]))] ++ ((List.range 40).map (fun i => (rr i, .inl (y.2 0, 40, .inl (fun _ => 0)))) ++ wf)) 45 2040 [(0, .ref a)] 45 [.ref q4, .ref a]
    refine jc_putF (pc' := 48) (ws' := [(q4, .inl (y.2 3, 40, .inr (.inr (.inr (.inr (fun i => if i < 40 then some (rr i) else none)))))), (q3, .inl (y.2 2, 100, .inl (fun _ => 0))), (q2, .inl (y.2 0, 100, .inl (fun _ => 0))), (q1, .inl (y.2 0, 100, .inl (fun _ => 0))), (q0, .inl (y.2 0, 100, .inl (fun _ => 0))), (a, .inr (7, [.ref q0, .ref q1, .ref q2, .ref q3, .ref q4, .long 0, .int 0]))] ++ ((List.range 40).map (fun i => (rr i, .inl (y.2 0, 40, .inl (fun _ => 0)))) ++ wf)) (C := RX7) (T := TX7) (N := 7) (ci := 7) (ty := .array (.array .int)) hκ (hI rfl) (mi inlX7) tyX7 tyX7_ok nmX7 5 rfl rfl 4 (by decide) (mc wm_4_1) rfl rfl rfl (by decide +kernel) rfl rfl (Nat.le_of_ble_eq_true rfl) rfl dX7_init_45 rfl ?_
    refine jc_aload_n (pc' := 49) hκ 0 rfl rfl dX7_init_48 rfl ?_
    refine jc_lconst (pc' := 50) (v := 0) hκ (by decide) dX7_init_49 rfl ?_
    refine jc_put (pc' := 53) (ws' := [(q4, .inl (y.2 3, 40, .inr (.inr (.inr (.inr (fun i => if i < 40 then some (rr i) else none)))))), (q3, .inl (y.2 2, 100, .inl (fun _ => 0))), (q2, .inl (y.2 0, 100, .inl (fun _ => 0))), (q1, .inl (y.2 0, 100, .inl (fun _ => 0))), (q0, .inl (y.2 0, 100, .inl (fun _ => 0))), (a, .inr (7, [.ref q0, .ref q1, .ref q2, .ref q3, .ref q4, .long 0, .int 0]))] ++ ((List.range 40).map (fun i => (rr i, .inl (y.2 0, 40, .inl (fun _ => 0)))) ++ wf)) (C := RX7) (T := TX7) (N := 7) (ci := 7) (ty := .long) hκ (mi inlX7) tyX7 tyX7_ok nmX7 5 rfl rfl 5 (by decide) (mc wm_4_2) rfl rfl (by decide +kernel) rfl rfl (Nat.le_of_ble_eq_true rfl) rfl dX7_init_50 rfl ?_
    refine jc_aload_n (pc' := 54) hκ 0 rfl rfl dX7_init_53 rfl ?_
    refine jc_iconst (pc' := 55) (v := 0) hκ (by decide) dX7_init_54 rfl ?_
    refine jc_put (pc' := 58) (ws' := [(q4, .inl (y.2 3, 40, .inr (.inr (.inr (.inr (fun i => if i < 40 then some (rr i) else none)))))), (q3, .inl (y.2 2, 100, .inl (fun _ => 0))), (q2, .inl (y.2 0, 100, .inl (fun _ => 0))), (q1, .inl (y.2 0, 100, .inl (fun _ => 0))), (q0, .inl (y.2 0, 100, .inl (fun _ => 0))), (a, .inr (7, [.ref q0, .ref q1, .ref q2, .ref q3, .ref q4, .long 0, .int 0]))] ++ ((List.range 40).map (fun i => (rr i, .inl (y.2 0, 40, .inl (fun _ => 0)))) ++ wf)) (C := RX7) (T := TX7) (N := 7) (ci := 7) (ty := .int) hκ (mi inlX7) tyX7 tyX7_ok nmX7 5 rfl rfl 6 (by decide) (mc wm_4_3) rfl rfl (by decide +kernel) rfl rfl (Nat.le_of_ble_eq_true rfl) rfl dX7_init_55 rfl ?_
    exact hR ((fun i => [q0, q1, q2, q3, q4].getD i 0, rr, fun _ => 0)) _ _ dX7_init_58 trivial)
theorem wm_4_7 : Cond.methodLink RX2 3 objectInit ∈ wAll := inr_4 (List.mem_of_getElem? (i := 7) rfl)
theorem wm_4_11 : Cond.fieldLink RX2 21 "LampRound$Lamps" "prices" "[I" ∈ wAll := inr_4 (List.mem_of_getElem? (i := 11) rfl)
theorem wm_4_14 : Cond.classLink RX2 30 "[[I" ∈ wAll := inr_4 (List.mem_of_getElem? (i := 14) rfl)
def ce_Lamps (y : Cy) (a : Nat) (b1 : Nat) (u : (Nat → Nat) × (Nat → Nat) × (Nat → Int32)) : va_W := [((u.1 6), .inl (y.2 3, 12, .inr (.inr (.inr (.inr (fun i => if i < 12 then some (u.2.1 i) else none)))))), ((u.1 5), .inl (y.2 0, 12, .inl (fun _ => 0))), ((u.1 4), .inl (y.2 0, 12, .inl (fun _ => 0))), ((u.1 3), .inl (y.2 0, 12, .inl (fun _ => 0))), ((u.1 2), .inl (y.2 0, 12, .inl (fun _ => 0))), ((u.1 1), .inl (y.2 0, 12, .inl (fun _ => 0))), ((u.1 0), .inl (y.2 0, 12, .inl (fun _ => 0))), (a, .inr (2, [.ref b1, .ref (u.1 0), .ref (u.1 1), .ref (u.1 2), .ref (u.1 3), .ref (u.1 4), .ref (u.1 5), .ref (u.1 6), .int 0, .int 0, .int 0]))]
def cr_Lamps (y : Cy) (u : (Nat → Nat) × (Nat → Nat) × (Nat → Int32)) : va_W := (List.range 12).map (fun i => (u.2.1 i, .inl (y.2 0, 12, .inl (fun _ => 0))))
abbrev rk_Lamps : Room := { frames := 1, cells := 19, slots := 228, locals := 20 }
set_option maxHeartbeats 4000000 in
set_option maxRecDepth 100000 in
theorem k_Lamps {y : Cy} {wf : va_W} {a : Nat} {b1 : Nat} : ∀ (l : Launch) (sz : Nat), Met l yX2_init wq_X2_init rk_Lamps (va_Pc [.ref a, .ref b1] (PC y ((a, .inr (2, [.null, .null, .null, .null, .null, .null, .null, .null, .int 0, .int 0, .int 0])) :: wf) sz)) (va_Qv (fun u : (Nat → Nat) × (Nat → Nat) × (Nat → Int32) => True) (fun u t => va_P y.1 vwCl (ce_Lamps y a b1 u ++ (cr_Lamps y u ++ wf)) t.heap ∧ va_D (va_A ((a, .inr (2, [.null, .null, .null, .null, .null, .null, .null, .null, .int 0, .int 0, .int 0])) :: wf) sz) (ce_Lamps y a b1 u ++ (cr_Lamps y u ++ wf))) (va_A ((a, .inr (2, [.null, .null, .null, .null, .null, .null, .null, .null, .int 0, .int 0, .int 0])) :: wf) sz)) 19 228 (va_A ((a, .inr (2, [.null, .null, .null, .null, .null, .null, .null, .null, .int 0, .int 0, .int 0])) :: wf) sz) :=
  met_c (by decide) rfl [.ref a, .ref b1] rfl (Nat.le_of_ble_eq_true rfl) (fun κ hκ hI hR => by
    show Jc κ y 2 ([(a, .inr (2, [.null, .null, .null, .null, .null, .null, .null, .null, .int 0, .int 0, .int 0]))] ++ wf) 0 0 [(0, .ref a), (1, .ref b1)] 0 []
    refine jc_aload_n (pc' := 1) hκ 0 rfl rfl dX2_init_0 rfl ?_
    refine jc_obj (pc' := 4) hκ (mc wm_4_7) (mc wm_1_11) (mc wm_1_12) (Nat.le_of_ble_eq_true rfl) (Nat.le_of_ble_eq_true rfl) dX2_init_1 rfl ?_
    refine jc_aload_n (pc' := 5) hκ 0 rfl rfl dX2_init_4 rfl ?_
    refine jc_bipush (pc' := 7) (v := 12) hκ (by decide) dX2_init_5 rfl ?_
    refine jc_newaI (pc' := 9) (N := 12) (cells' := 1) (slots' := 12) hκ (mc wm_3_9) (by decide) rfl (Nat.le_of_ble_eq_true rfl) rfl rfl (Nat.le_of_ble_eq_true rfl) (Nat.le_of_ble_eq_true rfl) dX2_init_7 rfl (fun q0 => ?_)
    show Jc κ y 2 ([(q0, .inl (y.2 0, 12, .inl (fun _ => 0))), (a, .inr (2, [.null, .null, .null, .null, .null, .null, .null, .null, .int 0, .int 0, .int 0]))] ++ wf) 1 12 [(0, .ref a), (1, .ref b1)] 9 [.ref q0, .ref a]
    refine jc_putF (pc' := 12) (ws' := [(q0, .inl (y.2 0, 12, .inl (fun _ => 0))), (a, .inr (2, [.null, .ref q0, .null, .null, .null, .null, .null, .null, .int 0, .int 0, .int 0]))] ++ wf) (C := RX2) (T := TX2) (N := 11) (ci := 2) (ty := .array .int) hκ (hI rfl) (mi inlX2) tyX2 tyX2_ok nmX2 1 rfl rfl 1 (by decide) (mc wm_4_8) rfl rfl rfl (by decide +kernel) rfl rfl (Nat.le_of_ble_eq_true rfl) rfl dX2_init_9 rfl ?_
    refine jc_aload_n (pc' := 13) hκ 0 rfl rfl dX2_init_12 rfl ?_
    refine jc_bipush (pc' := 15) (v := 12) hκ (by decide) dX2_init_13 rfl ?_
    refine jc_newaI (pc' := 17) (N := 12) (cells' := 2) (slots' := 24) hκ (mc wm_3_9) (by decide) rfl (Nat.le_of_ble_eq_true rfl) rfl rfl (Nat.le_of_ble_eq_true rfl) (Nat.le_of_ble_eq_true rfl) dX2_init_15 rfl (fun q1 => ?_)
    show Jc κ y 2 ([(q1, .inl (y.2 0, 12, .inl (fun _ => 0))), (q0, .inl (y.2 0, 12, .inl (fun _ => 0))), (a, .inr (2, [.null, .ref q0, .null, .null, .null, .null, .null, .null, .int 0, .int 0, .int 0]))] ++ wf) 2 24 [(0, .ref a), (1, .ref b1)] 17 [.ref q1, .ref a]
    refine jc_putF (pc' := 20) (ws' := [(q1, .inl (y.2 0, 12, .inl (fun _ => 0))), (q0, .inl (y.2 0, 12, .inl (fun _ => 0))), (a, .inr (2, [.null, .ref q0, .ref q1, .null, .null, .null, .null, .null, .int 0, .int 0, .int 0]))] ++ wf) (C := RX2) (T := TX2) (N := 11) (ci := 2) (ty := .array .int) hκ (hI rfl) (mi inlX2) tyX2 tyX2_ok nmX2 2 rfl rfl 2 (by decide) (mc wm_4_9) rfl rfl rfl (by decide +kernel) rfl rfl (Nat.le_of_ble_eq_true rfl) rfl dX2_init_17 rfl ?_
    refine jc_aload_n (pc' := 21) hκ 0 rfl rfl dX2_init_20 rfl ?_
    refine jc_bipush (pc' := 23) (v := 12) hκ (by decide) dX2_init_21 rfl ?_
    refine jc_newaI (pc' := 25) (N := 12) (cells' := 3) (slots' := 36) hκ (mc wm_3_9) (by decide) rfl (Nat.le_of_ble_eq_true rfl) rfl rfl (Nat.le_of_ble_eq_true rfl) (Nat.le_of_ble_eq_true rfl) dX2_init_23 rfl (fun q2 => ?_)
    show Jc κ y 2 ([(q2, .inl (y.2 0, 12, .inl (fun _ => 0))), (q1, .inl (y.2 0, 12, .inl (fun _ => 0))), (q0, .inl (y.2 0, 12, .inl (fun _ => 0))), (a, .inr (2, [.null, .ref q0, .ref q1, .null, .null, .null, .null, .null, .int 0, .int 0, .int 0]))] ++ wf) 3 36 [(0, .ref a), (1, .ref b1)] 25 [.ref q2, .ref a]
    refine jc_putF (pc' := 28) (ws' := [(q2, .inl (y.2 0, 12, .inl (fun _ => 0))), (q1, .inl (y.2 0, 12, .inl (fun _ => 0))), (q0, .inl (y.2 0, 12, .inl (fun _ => 0))), (a, .inr (2, [.null, .ref q0, .ref q1, .ref q2, .null, .null, .null, .null, .int 0, .int 0, .int 0]))] ++ wf) (C := RX2) (T := TX2) (N := 11) (ci := 2) (ty := .array .int) hκ (hI rfl) (mi inlX2) tyX2 tyX2_ok nmX2 3 rfl rfl 3 (by decide) (mc wm_4_10) rfl rfl rfl (by decide +kernel) rfl rfl (Nat.le_of_ble_eq_true rfl) rfl dX2_init_25 rfl ?_
    refine jc_aload_n (pc' := 29) hκ 0 rfl rfl dX2_init_28 rfl ?_
    refine jc_bipush (pc' := 31) (v := 12) hκ (by decide) dX2_init_29 rfl ?_
    refine jc_newaI (pc' := 33) (N := 12) (cells' := 4) (slots' := 48) hκ (mc wm_3_9) (by decide) rfl (Nat.le_of_ble_eq_true rfl) rfl rfl (Nat.le_of_ble_eq_true rfl) (Nat.le_of_ble_eq_true rfl) dX2_init_31 rfl (fun q3 => ?_)
    show Jc κ y 2 ([(q3, .inl (y.2 0, 12, .inl (fun _ => 0))), (q2, .inl (y.2 0, 12, .inl (fun _ => 0))), (q1, .inl (y.2 0, 12, .inl (fun _ => 0))), (q0, .inl (y.2 0, 12, .inl (fun _ => 0))), (a, .inr (2, [.null, .ref q0, .ref q1, .ref q2, .null, .null, .null, .null, .int 0, .int 0, .int 0]))] ++ wf) 4 48 [(0, .ref a), (1, .ref b1)] 33 [.ref q3, .ref a]
    refine jc_putF (pc' := 36) (ws' := [(q3, .inl (y.2 0, 12, .inl (fun _ => 0))), (q2, .inl (y.2 0, 12, .inl (fun _ => 0))), (q1, .inl (y.2 0, 12, .inl (fun _ => 0))), (q0, .inl (y.2 0, 12, .inl (fun _ => 0))), (a, .inr (2, [.null, .ref q0, .ref q1, .ref q2, .ref q3, .null, .null, .null, .int 0, .int 0, .int 0]))] ++ wf) (C := RX2) (T := TX2) (N := 11) (ci := 2) (ty := .array .int) hκ (hI rfl) (mi inlX2) tyX2 tyX2_ok nmX2 4 rfl rfl 4 (by decide) (mc wm_4_11) rfl rfl rfl (by decide +kernel) rfl rfl (Nat.le_of_ble_eq_true rfl) rfl dX2_init_33 rfl ?_
    refine jc_aload_n (pc' := 37) hκ 0 rfl rfl dX2_init_36 rfl ?_
    refine jc_bipush (pc' := 39) (v := 12) hκ (by decide) dX2_init_37 rfl ?_
    refine jc_newaI (pc' := 41) (N := 12) (cells' := 5) (slots' := 60) hκ (mc wm_3_9) (by decide) rfl (Nat.le_of_ble_eq_true rfl) rfl rfl (Nat.le_of_ble_eq_true rfl) (Nat.le_of_ble_eq_true rfl) dX2_init_39 rfl (fun q4 => ?_)
    show Jc κ y 2 ([(q4, .inl (y.2 0, 12, .inl (fun _ => 0))), (q3, .inl (y.2 0, 12, .inl (fun _ => 0))), (q2, .inl (y.2 0, 12, .inl (fun _ => 0))), (q1, .inl (y.2 0, 12, .inl (fun _ => 0))), (q0, .inl (y.2 0, 12, .inl (fun _ => 0))), (a, .inr (2, [.null, .ref q0, .ref q1, .ref q2, .ref q3, .null, .null, .null, .int 0, .int 0, .int 0]))] ++ wf) 5 60 [(0, .ref a), (1, .ref b1)] 41 [.ref q4, .ref a]
    refine jc_putF (pc' := 44) (ws' := [(q4, .inl (y.2 0, 12, .inl (fun _ => 0))), (q3, .inl (y.2 0, 12, .inl (fun _ => 0))), (q2, .inl (y.2 0, 12, .inl (fun _ => 0))), (q1, .inl (y.2 0, 12, .inl (fun _ => 0))), (q0, .inl (y.2 0, 12, .inl (fun _ => 0))), (a, .inr (2, [.null, .ref q0, .ref q1, .ref q2, .ref q3, .ref q4, .null, .null, .int 0, .int 0, .int 0]))] ++ wf) (C := RX2) (T := TX2) (N := 11) (ci := 2) (ty := .array .int) hκ (hI rfl) (mi inlX2) tyX2 tyX2_ok nmX2 5 rfl rfl 5 (by decide) (mc wm_4_12) rfl rfl rfl (by decide +kernel) rfl rfl (Nat.le_of_ble_eq_true rfl) rfl dX2_init_41 rfl ?_
    refine jc_aload_n (pc' := 45) hκ 0 rfl rfl dX2_init_44 rfl ?_
    refine jc_bipush (pc' := 47) (v := 12) hκ (by decide) dX2_init_45 rfl ?_
    refine jc_newaI (pc' := 49) (N := 12) (cells' := 6) (slots' := 72) hκ (mc wm_3_9) (by decide) rfl (Nat.le_of_ble_eq_true rfl) rfl rfl (Nat.le_of_ble_eq_true rfl) (Nat.le_of_ble_eq_true rfl) dX2_init_47 rfl (fun q5 => ?_)
    show Jc κ y 2 ([(q5, .inl (y.2 0, 12, .inl (fun _ => 0))), (q4, .inl (y.2 0, 12, .inl (fun _ => 0))), (q3, .inl (y.2 0, 12, .inl (fun _ => 0))), (q2, .inl (y.2 0, 12, .inl (fun _ => 0))), (q1, .inl (y.2 0, 12, .inl (fun _ => 0))), (q0, .inl (y.2 0, 12, .inl (fun _ => 0))), (a, .inr (2, [.null, .ref q0, .ref q1, .ref q2, .ref q3, .ref q4, .null, .null, .int 0, .int 0, .int 0]))] ++ wf) 6 72 [(0, .ref a), (1, .ref b1)] 49 [.ref q5, .ref a]
    refine jc_putF (pc' := 52) (ws' := [(q5, .inl (y.2 0, 12, .inl (fun _ => 0))), (q4, .inl (y.2 0, 12, .inl (fun _ => 0))), (q3, .inl (y.2 0, 12, .inl (fun _ => 0))), (q2, .inl (y.2 0, 12, .inl (fun _ => 0))), (q1, .inl (y.2 0, 12, .inl (fun _ => 0))), (q0, .inl (y.2 0, 12, .inl (fun _ => 0))), (a, .inr (2, [.null, .ref q0, .ref q1, .ref q2, .ref q3, .ref q4, .ref q5, .null, .int 0, .int 0, .int 0]))] ++ wf) (C := RX2) (T := TX2) (N := 11) (ci := 2) (ty := .array .int) hκ (hI rfl) (mi inlX2) tyX2 tyX2_ok nmX2 6 rfl rfl 6 (by decide) (mc wm_4_13) rfl rfl rfl (by decide +kernel) rfl rfl (Nat.le_of_ble_eq_true rfl) rfl dX2_init_49 rfl ?_
    refine jc_aload_n (pc' := 53) hκ 0 rfl rfl dX2_init_52 rfl ?_
    refine jc_bipush (pc' := 55) (v := 12) hκ (by decide) dX2_init_53 rfl ?_
    refine jc_bipush (pc' := 57) (v := 12) hκ (by decide) dX2_init_55 rfl ?_
    refine jc_mnaI (pc' := 61) (E := [(q5, .inl (y.2 0, 12, .inl (fun _ => 0))), (q4, .inl (y.2 0, 12, .inl (fun _ => 0))), (q3, .inl (y.2 0, 12, .inl (fun _ => 0))), (q2, .inl (y.2 0, 12, .inl (fun _ => 0))), (q1, .inl (y.2 0, 12, .inl (fun _ => 0))), (q0, .inl (y.2 0, 12, .inl (fun _ => 0))), (a, .inr (2, [.null, .ref q0, .ref q1, .ref q2, .ref q3, .ref q4, .ref q5, .null, .int 0, .int 0, .int 0]))]) (wf := wf) (N := 12) (K := 12) (cells' := 19) (slots' := 228) hκ (mc wm_4_14) (mc wm_3_9) (by decide) (by decide) rfl rfl (Nat.le_of_ble_eq_true rfl) (Nat.le_of_ble_eq_true rfl) (Nat.le_of_ble_eq_true rfl) rfl rfl (Nat.le_of_ble_eq_true rfl) (Nat.le_of_ble_eq_true rfl) dX2_init_57 rfl (fun q6 rr => ?_)
    show Jc κ y 2 ([(q6, .inl (y.2 3, 12, .inr (.inr (.inr (.inr (fun i => if i < 12 then some (rr i) else none)))))), (q5, .inl (y.2 0, 12, .inl (fun _ => 0))), (q4, .inl (y.2 0, 12, .inl (fun _ => 0))), (q3, .inl (y.2 0, 12, .inl (fun _ => 0))), (q2, .inl (y.2 0, 12, .inl (fun _ => 0))), (q1, .inl (y.2 0, 12, .inl (fun _ => 0))), (q0, .inl (y.2 0, 12, .inl (fun _ => 0))), (a, .inr (2, [.null, .ref q0, .ref q1, .ref q2, .ref q3, .ref q4, .ref q5, .null, .int 0, .int 0, .int 0]))] ++ ((List.range 12).map (fun i => (rr i, .inl (y.2 0, 12, .inl (fun _ => 0)))) ++ wf)) 19 228 [(0, .ref a), (1, .ref b1)] 61 [.ref q6, .ref a]
    refine jc_putF (pc' := 64) (ws' := [(q6, .inl (y.2 3, 12, .inr (.inr (.inr (.inr (fun i => if i < 12 then some (rr i) else none)))))), (q5, .inl (y.2 0, 12, .inl (fun _ => 0))), (q4, .inl (y.2 0, 12, .inl (fun _ => 0))), (q3, .inl (y.2 0, 12, .inl (fun _ => 0))), (q2, .inl (y.2 0, 12, .inl (fun _ => 0))), (q1, .inl (y.2 0, 12, .inl (fun _ => 0))), (q0, .inl (y.2 0, 12, .inl (fun _ => 0))), (a, .inr (2, [.null, .ref q0, .ref q1, .ref q2, .ref q3, .ref q4, .ref q5, .ref q6, .int 0, .int 0, .int 0]))] ++ ((List.range 12).map (fun i => (rr i, .inl (y.2 0, 12, .inl (fun _ => 0)))) ++ wf)) (C := RX2) (T := TX2) (N := 11) (ci := 2) (ty := .array (.array .int)) hκ (hI rfl) (mi inlX2) tyX2 tyX2_ok nmX2 7 rfl rfl 7 (by decide) (mc wm_4_15) rfl rfl rfl (by decide +kernel) rfl rfl (Nat.le_of_ble_eq_true rfl) rfl dX2_init_61 rfl ?_
    refine jc_aload_n (pc' := 65) hκ 0 rfl rfl dX2_init_64 rfl ?_
    refine jc_iconst (pc' := 66) (v := 0) hκ (by decide) dX2_init_65 rfl ?_
    refine jc_put (pc' := 69) (ws' := [(q6, .inl (y.2 3, 12, .inr (.inr (.inr (.inr (fun i => if i < 12 then some (rr i) else none)))))), (q5, .inl (y.2 0, 12, .inl (fun _ => 0))), (q4, .inl (y.2 0, 12, .inl (fun _ => 0))), (q3, .inl (y.2 0, 12, .inl (fun _ => 0))), (q2, .inl (y.2 0, 12, .inl (fun _ => 0))), (q1, .inl (y.2 0, 12, .inl (fun _ => 0))), (q0, .inl (y.2 0, 12, .inl (fun _ => 0))), (a, .inr (2, [.null, .ref q0, .ref q1, .ref q2, .ref q3, .ref q4, .ref q5, .ref q6, .int 0, .int 0, .int 0]))] ++ ((List.range 12).map (fun i => (rr i, .inl (y.2 0, 12, .inl (fun _ => 0)))) ++ wf)) (C := RX2) (T := TX2) (N := 11) (ci := 2) (ty := .int) hκ (mi inlX2) tyX2 tyX2_ok nmX2 7 rfl rfl 8 (by decide) (mc wm_4_16) rfl rfl (by decide +kernel) rfl rfl (Nat.le_of_ble_eq_true rfl) rfl dX2_init_66 rfl ?_
    refine jc_aload_n (pc' := 70) hκ 0 rfl rfl dX2_init_69 rfl ?_
    refine jc_iconst (pc' := 71) (v := 0) hκ (by decide) dX2_init_70 rfl ?_
    refine jc_put (pc' := 74) (ws' := [(q6, .inl (y.2 3, 12, .inr (.inr (.inr (.inr (fun i => if i < 12 then some (rr i) else none)))))), (q5, .inl (y.2 0, 12, .inl (fun _ => 0))), (q4, .inl (y.2 0, 12, .inl (fun _ => 0))), (q3, .inl (y.2 0, 12, .inl (fun _ => 0))), (q2, .inl (y.2 0, 12, .inl (fun _ => 0))), (q1, .inl (y.2 0, 12, .inl (fun _ => 0))), (q0, .inl (y.2 0, 12, .inl (fun _ => 0))), (a, .inr (2, [.null, .ref q0, .ref q1, .ref q2, .ref q3, .ref q4, .ref q5, .ref q6, .int 0, .int 0, .int 0]))] ++ ((List.range 12).map (fun i => (rr i, .inl (y.2 0, 12, .inl (fun _ => 0)))) ++ wf)) (C := RX2) (T := TX2) (N := 11) (ci := 2) (ty := .int) hκ (mi inlX2) tyX2 tyX2_ok nmX2 7 rfl rfl 9 (by decide) (mc wm_4_17) rfl rfl (by decide +kernel) rfl rfl (Nat.le_of_ble_eq_true rfl) rfl dX2_init_71 rfl ?_
    refine jc_aload_n (pc' := 75) hκ 0 rfl rfl dX2_init_74 rfl ?_
    refine jc_iconst (pc' := 76) (v := 0) hκ (by decide) dX2_init_75 rfl ?_
    refine jc_put (pc' := 79) (ws' := [(q6, .inl (y.2 3, 12, .inr (.inr (.inr (.inr (fun i => if i < 12 then some (rr i) else none)))))), (q5, .inl (y.2 0, 12, .inl (fun _ => 0))), (q4, .inl (y.2 0, 12, .inl (fun _ => 0))), (q3, .inl (y.2 0, 12, .inl (fun _ => 0))), (q2, .inl (y.2 0, 12, .inl (fun _ => 0))), (q1, .inl (y.2 0, 12, .inl (fun _ => 0))), (q0, .inl (y.2 0, 12, .inl (fun _ => 0))), (a, .inr (2, [.null, .ref q0, .ref q1, .ref q2, .ref q3, .ref q4, .ref q5, .ref q6, .int 0, .int 0, .int 0]))] ++ ((List.range 12).map (fun i => (rr i, .inl (y.2 0, 12, .inl (fun _ => 0)))) ++ wf)) (C := RX2) (T := TX2) (N := 11) (ci := 2) (ty := .boolean) hκ (mi inlX2) tyX2 tyX2_ok nmX2 7 rfl rfl 10 (by decide) (mc wm_4_18) rfl rfl (by decide +kernel) rfl rfl (Nat.le_of_ble_eq_true rfl) rfl dX2_init_76 rfl ?_
    refine jc_aload_n (pc' := 80) hκ 0 rfl rfl dX2_init_79 rfl ?_
    refine jc_aload_n (pc' := 81) hκ 1 rfl rfl dX2_init_80 rfl ?_
    refine jc_putF (pc' := 84) (ws' := [(q6, .inl (y.2 3, 12, .inr (.inr (.inr (.inr (fun i => if i < 12 then some (rr i) else none)))))), (q5, .inl (y.2 0, 12, .inl (fun _ => 0))), (q4, .inl (y.2 0, 12, .inl (fun _ => 0))), (q3, .inl (y.2 0, 12, .inl (fun _ => 0))), (q2, .inl (y.2 0, 12, .inl (fun _ => 0))), (q1, .inl (y.2 0, 12, .inl (fun _ => 0))), (q0, .inl (y.2 0, 12, .inl (fun _ => 0))), (a, .inr (2, [.ref b1, .ref q0, .ref q1, .ref q2, .ref q3, .ref q4, .ref q5, .ref q6, .int 0, .int 0, .int 0]))] ++ ((List.range 12).map (fun i => (rr i, .inl (y.2 0, 12, .inl (fun _ => 0)))) ++ wf)) (C := RX2) (T := TX2) (N := 11) (ci := 2) (ty := .object "LampRound$Town") hκ (hI rfl) (mi inlX2) tyX2 tyX2_ok nmX2 7 rfl rfl 0 (by decide) (mc wm_4_19) rfl rfl rfl (by decide +kernel) rfl rfl (Nat.le_of_ble_eq_true rfl) rfl dX2_init_81 rfl ?_
    exact hR ((fun i => [q0, q1, q2, q3, q4, q5, q6].getD i 0, rr, fun _ => 0)) _ _ dX2_init_84 trivial)
theorem wm_4_23 : Cond.methodLink RX6 3 objectInit ∈ wAll := inr_4 (List.mem_of_getElem? (i := 23) rfl)
def ce_Told (y : Cy) (a : Nat) (b1 : Nat) (u : (Nat → Nat) × (Nat → Nat) × (Nat → Int32)) : va_W := [((u.1 0), .inl (y.2 0, 12, .inl (fun _ => 0))), (a, .inr (6, [.ref b1, .ref (u.1 0), .int 0]))]
def cr_Told (y : Cy) (u : (Nat → Nat) × (Nat → Nat) × (Nat → Int32)) : va_W := []
abbrev rk_Told : Room := { frames := 1, cells := 1, slots := 12, locals := 20 }
set_option maxHeartbeats 4000000 in
set_option maxRecDepth 100000 in
theorem k_Told {y : Cy} {wf : va_W} {a : Nat} {b1 : Nat} : ∀ (l : Launch) (sz : Nat), Met l yX6_init wq_X6_init rk_Told (va_Pc [.ref a, .ref b1] (PC y ((a, .inr (6, [.null, .null, .int 0])) :: wf) sz)) (va_Qv (fun u : (Nat → Nat) × (Nat → Nat) × (Nat → Int32) => True) (fun u t => va_P y.1 vwCl (ce_Told y a b1 u ++ (cr_Told y u ++ wf)) t.heap ∧ va_D (va_A ((a, .inr (6, [.null, .null, .int 0])) :: wf) sz) (ce_Told y a b1 u ++ (cr_Told y u ++ wf))) (va_A ((a, .inr (6, [.null, .null, .int 0])) :: wf) sz)) 1 12 (va_A ((a, .inr (6, [.null, .null, .int 0])) :: wf) sz) :=
  met_c (by decide) rfl [.ref a, .ref b1] rfl (Nat.le_of_ble_eq_true rfl) (fun κ hκ hI hR => by
    show Jc κ y 2 ([(a, .inr (6, [.null, .null, .int 0]))] ++ wf) 0 0 [(0, .ref a), (1, .ref b1)] 0 []
    refine jc_aload_n (pc' := 1) hκ 0 rfl rfl dX6_init_0 rfl ?_
    refine jc_obj (pc' := 4) hκ (mc wm_4_23) (mc wm_1_11) (mc wm_1_12) (Nat.le_of_ble_eq_true rfl) (Nat.le_of_ble_eq_true rfl) dX6_init_1 rfl ?_
    refine jc_aload_n (pc' := 5) hκ 0 rfl rfl dX6_init_4 rfl ?_
    refine jc_bipush (pc' := 7) (v := 12) hκ (by decide) dX6_init_5 rfl ?_
    refine jc_newaI (pc' := 9) (N := 12) (cells' := 1) (slots' := 12) hκ (mc wm_3_9) (by decide) rfl (Nat.le_of_ble_eq_true rfl) rfl rfl (Nat.le_of_ble_eq_true rfl) (Nat.le_of_ble_eq_true rfl) dX6_init_7 rfl (fun q0 => ?_)
    show Jc κ y 2 ([(q0, .inl (y.2 0, 12, .inl (fun _ => 0))), (a, .inr (6, [.null, .null, .int 0]))] ++ wf) 1 12 [(0, .ref a), (1, .ref b1)] 9 [.ref q0, .ref a]
    refine jc_putF (pc' := 12) (ws' := [(q0, .inl (y.2 0, 12, .inl (fun _ => 0))), (a, .inr (6, [.null, .ref q0, .int 0]))] ++ wf) (C := RX6) (T := TX6) (N := 3) (ci := 6) (ty := .array .int) hκ (hI rfl) (mi inlX6) tyX6 tyX6_ok nmX6 1 rfl rfl 1 (by decide) (mc wm_5_0) rfl rfl rfl (by decide +kernel) rfl rfl (Nat.le_of_ble_eq_true rfl) rfl dX6_init_9 rfl ?_
    refine jc_aload_n (pc' := 13) hκ 0 rfl rfl dX6_init_12 rfl ?_
    refine jc_iconst (pc' := 14) (v := 0) hκ (by decide) dX6_init_13 rfl ?_
    refine jc_put (pc' := 17) (ws' := [(q0, .inl (y.2 0, 12, .inl (fun _ => 0))), (a, .inr (6, [.null, .ref q0, .int 0]))] ++ wf) (C := RX6) (T := TX6) (N := 3) (ci := 6) (ty := .int) hκ (mi inlX6) tyX6 tyX6_ok nmX6 1 rfl rfl 2 (by decide) (mc wm_5_1) rfl rfl (by decide +kernel) rfl rfl (Nat.le_of_ble_eq_true rfl) rfl dX6_init_14 rfl ?_
    refine jc_aload_n (pc' := 18) hκ 0 rfl rfl dX6_init_17 rfl ?_
    refine jc_aload_n (pc' := 19) hκ 1 rfl rfl dX6_init_18 rfl ?_
    refine jc_putF (pc' := 22) (ws' := [(q0, .inl (y.2 0, 12, .inl (fun _ => 0))), (a, .inr (6, [.ref b1, .ref q0, .int 0]))] ++ wf) (C := RX6) (T := TX6) (N := 3) (ci := 6) (ty := .object "LampRound$Lamps") hκ (hI rfl) (mi inlX6) tyX6 tyX6_ok nmX6 1 rfl rfl 0 (by decide) (mc wm_5_2) rfl rfl rfl (by decide +kernel) rfl rfl (Nat.le_of_ble_eq_true rfl) rfl dX6_init_19 rfl ?_
    exact hR ((fun i => [q0].getD i 0, fun _ => 0, fun _ => 0)) _ _ dX6_init_22 trivial)
theorem wm_5_6 : Cond.methodLink RX5 3 objectInit ∈ wAll := inr_5 (List.mem_of_getElem? (i := 6) rfl)
def ce_Search (y : Cy) (a : Nat) (b1 : Nat) (u : (Nat → Nat) × (Nat → Nat) × (Nat → Int32)) : va_W := [((u.1 5), .inl (y.2 0, 8, .inl (fun _ => 0))), ((u.1 4), .inl (y.2 0, 8, .inl (fun _ => 0))), ((u.1 3), .inl (y.2 0, 8, .inl (fun _ => 0))), ((u.1 2), .inl (y.2 0, 8, .inl (fun _ => 0))), ((u.1 1), .inl (y.2 0, 12, .inl (fun _ => 0))), ((u.1 0), .inl (y.2 0, 12, .inl (fun _ => 0))), (a, .inr (5, [.ref b1, .ref (u.1 0), .ref (u.1 1), .ref (u.1 2), .ref (u.1 3), .ref (u.1 4), .ref (u.1 5), .int 0, .int 0, .int 2147483647]))]
def cr_Search (y : Cy) (u : (Nat → Nat) × (Nat → Nat) × (Nat → Int32)) : va_W := []
abbrev rk_Search : Room := { frames := 1, cells := 6, slots := 56, locals := 20 }
set_option maxHeartbeats 4000000 in
set_option maxRecDepth 100000 in
theorem k_Search {y : Cy} {wf : va_W} {a : Nat} {b1 : Nat} : ∀ (l : Launch) (sz : Nat), Met l yX5_init wq_X5_init rk_Search (va_Pc [.ref a, .ref b1] (PC y ((a, .inr (5, [.null, .null, .null, .null, .null, .null, .null, .int 0, .int 0, .int 0])) :: wf) sz)) (va_Qv (fun u : (Nat → Nat) × (Nat → Nat) × (Nat → Int32) => True) (fun u t => va_P y.1 vwCl (ce_Search y a b1 u ++ (cr_Search y u ++ wf)) t.heap ∧ va_D (va_A ((a, .inr (5, [.null, .null, .null, .null, .null, .null, .null, .int 0, .int 0, .int 0])) :: wf) sz) (ce_Search y a b1 u ++ (cr_Search y u ++ wf))) (va_A ((a, .inr (5, [.null, .null, .null, .null, .null, .null, .null, .int 0, .int 0, .int 0])) :: wf) sz)) 6 56 (va_A ((a, .inr (5, [.null, .null, .null, .null, .null, .null, .null, .int 0, .int 0, .int 0])) :: wf) sz) :=
  met_c (by decide) rfl [.ref a, .ref b1] rfl (Nat.le_of_ble_eq_true rfl) (fun κ hκ hI hR => by
    show Jc κ y 2 ([(a, .inr (5, [.null, .null, .null, .null, .null, .null, .null, .int 0, .int 0, .int 0]))] ++ wf) 0 0 [(0, .ref a), (1, .ref b1)] 0 []
    refine jc_aload_n (pc' := 1) hκ 0 rfl rfl dX5_init_0 rfl ?_
    refine jc_obj (pc' := 4) hκ (mc wm_5_6) (mc wm_1_11) (mc wm_1_12) (Nat.le_of_ble_eq_true rfl) (Nat.le_of_ble_eq_true rfl) dX5_init_1 rfl ?_
    refine jc_aload_n (pc' := 5) hκ 0 rfl rfl dX5_init_4 rfl ?_
    refine jc_bipush (pc' := 7) (v := 12) hκ (by decide) dX5_init_5 rfl ?_
    refine jc_newaI (pc' := 9) (N := 12) (cells' := 1) (slots' := 12) hκ (mc wm_3_9) (by decide) rfl (Nat.le_of_ble_eq_true rfl) rfl rfl (Nat.le_of_ble_eq_true rfl) (Nat.le_of_ble_eq_true rfl) dX5_init_7 rfl (fun q0 => ?_)
    show Jc κ y 2 ([(q0, .inl (y.2 0, 12, .inl (fun _ => 0))), (a, .inr (5, [.null, .null, .null, .null, .null, .null, .null, .int 0, .int 0, .int 0]))] ++ wf) 1 12 [(0, .ref a), (1, .ref b1)] 9 [.ref q0, .ref a]
    refine jc_putF (pc' := 12) (ws' := [(q0, .inl (y.2 0, 12, .inl (fun _ => 0))), (a, .inr (5, [.null, .ref q0, .null, .null, .null, .null, .null, .int 0, .int 0, .int 0]))] ++ wf) (C := RX5) (T := TX5) (N := 10) (ci := 5) (ty := .array .int) hκ (hI rfl) (mi inlX5) tyX5 tyX5_ok nmX5 1 rfl rfl 1 (by decide) (mc wm_5_7) rfl rfl rfl (by decide +kernel) rfl rfl (Nat.le_of_ble_eq_true rfl) rfl dX5_init_9 rfl ?_
    refine jc_aload_n (pc' := 13) hκ 0 rfl rfl dX5_init_12 rfl ?_
    refine jc_bipush (pc' := 15) (v := 12) hκ (by decide) dX5_init_13 rfl ?_
    refine jc_newaI (pc' := 17) (N := 12) (cells' := 2) (slots' := 24) hκ (mc wm_3_9) (by decide) rfl (Nat.le_of_ble_eq_true rfl) rfl rfl (Nat.le_of_ble_eq_true rfl) (Nat.le_of_ble_eq_true rfl) dX5_init_15 rfl (fun q1 => ?_)
    show Jc κ y 2 ([(q1, .inl (y.2 0, 12, .inl (fun _ => 0))), (q0, .inl (y.2 0, 12, .inl (fun _ => 0))), (a, .inr (5, [.null, .ref q0, .null, .null, .null, .null, .null, .int 0, .int 0, .int 0]))] ++ wf) 2 24 [(0, .ref a), (1, .ref b1)] 17 [.ref q1, .ref a]
    refine jc_putF (pc' := 20) (ws' := [(q1, .inl (y.2 0, 12, .inl (fun _ => 0))), (q0, .inl (y.2 0, 12, .inl (fun _ => 0))), (a, .inr (5, [.null, .ref q0, .ref q1, .null, .null, .null, .null, .int 0, .int 0, .int 0]))] ++ wf) (C := RX5) (T := TX5) (N := 10) (ci := 5) (ty := .array .int) hκ (hI rfl) (mi inlX5) tyX5 tyX5_ok nmX5 2 rfl rfl 2 (by decide) (mc wm_5_8) rfl rfl rfl (by decide +kernel) rfl rfl (Nat.le_of_ble_eq_true rfl) rfl dX5_init_17 rfl ?_
    refine jc_aload_n (pc' := 21) hκ 0 rfl rfl dX5_init_20 rfl ?_
    refine jc_bipush (pc' := 23) (v := 8) hκ (by decide) dX5_init_21 rfl ?_
    refine jc_newaI (pc' := 25) (N := 8) (cells' := 3) (slots' := 32) hκ (mc wm_3_9) (by decide) rfl (Nat.le_of_ble_eq_true rfl) rfl rfl (Nat.le_of_ble_eq_true rfl) (Nat.le_of_ble_eq_true rfl) dX5_init_23 rfl (fun q2 => ?_)
    show Jc κ y 2 ([(q2, .inl (y.2 0, 8, .inl (fun _ => 0))), (q1, .inl (y.2 0, 12, .inl (fun _ => 0))), (q0, .inl (y.2 0, 12, .inl (fun _ => 0))), (a, .inr (5, [.null, .ref q0, .ref q1, .null, .null, .null, .null, .int 0, .int 0, .int 0]))] ++ wf) 3 32 [(0, .ref a), (1, .ref b1)] 25 [.ref q2, .ref a]
    refine jc_putF (pc' := 28) (ws' := [(q2, .inl (y.2 0, 8, .inl (fun _ => 0))), (q1, .inl (y.2 0, 12, .inl (fun _ => 0))), (q0, .inl (y.2 0, 12, .inl (fun _ => 0))), (a, .inr (5, [.null, .ref q0, .ref q1, .ref q2, .null, .null, .null, .int 0, .int 0, .int 0]))] ++ wf) (C := RX5) (T := TX5) (N := 10) (ci := 5) (ty := .array .int) hκ (hI rfl) (mi inlX5) tyX5 tyX5_ok nmX5 3 rfl rfl 3 (by decide) (mc wm_5_9) rfl rfl rfl (by decide +kernel) rfl rfl (Nat.le_of_ble_eq_true rfl) rfl dX5_init_25 rfl ?_
    refine jc_aload_n (pc' := 29) hκ 0 rfl rfl dX5_init_28 rfl ?_
    refine jc_bipush (pc' := 31) (v := 8) hκ (by decide) dX5_init_29 rfl ?_
    refine jc_newaI (pc' := 33) (N := 8) (cells' := 4) (slots' := 40) hκ (mc wm_3_9) (by decide) rfl (Nat.le_of_ble_eq_true rfl) rfl rfl (Nat.le_of_ble_eq_true rfl) (Nat.le_of_ble_eq_true rfl) dX5_init_31 rfl (fun q3 => ?_)
    show Jc κ y 2 ([(q3, .inl (y.2 0, 8, .inl (fun _ => 0))), (q2, .inl (y.2 0, 8, .inl (fun _ => 0))), (q1, .inl (y.2 0, 12, .inl (fun _ => 0))), (q0, .inl (y.2 0, 12, .inl (fun _ => 0))), (a, .inr (5, [.null, .ref q0, .ref q1, .ref q2, .null, .null, .null, .int 0, .int 0, .int 0]))] ++ wf) 4 40 [(0, .ref a), (1, .ref b1)] 33 [.ref q3, .ref a]
    refine jc_putF (pc' := 36) (ws' := [(q3, .inl (y.2 0, 8, .inl (fun _ => 0))), (q2, .inl (y.2 0, 8, .inl (fun _ => 0))), (q1, .inl (y.2 0, 12, .inl (fun _ => 0))), (q0, .inl (y.2 0, 12, .inl (fun _ => 0))), (a, .inr (5, [.null, .ref q0, .ref q1, .ref q2, .ref q3, .null, .null, .int 0, .int 0, .int 0]))] ++ wf) (C := RX5) (T := TX5) (N := 10) (ci := 5) (ty := .array .int) hκ (hI rfl) (mi inlX5) tyX5 tyX5_ok nmX5 4 rfl rfl 4 (by decide) (mc wm_5_10) rfl rfl rfl (by decide +kernel) rfl rfl (Nat.le_of_ble_eq_true rfl) rfl dX5_init_33 rfl ?_
    refine jc_aload_n (pc' := 37) hκ 0 rfl rfl dX5_init_36 rfl ?_
    refine jc_bipush (pc' := 39) (v := 8) hκ (by decide) dX5_init_37 rfl ?_
    refine jc_newaI (pc' := 41) (N := 8) (cells' := 5) (slots' := 48) hκ (mc wm_3_9) (by decide) rfl (Nat.le_of_ble_eq_true rfl) rfl rfl (Nat.le_of_ble_eq_true rfl) (Nat.le_of_ble_eq_true rfl) dX5_init_39 rfl (fun q4 => ?_)
    show Jc κ y 2 ([(q4, .inl (y.2 0, 8, .inl (fun _ => 0))), (q3, .inl (y.2 0, 8, .inl (fun _ => 0))), (q2, .inl (y.2 0, 8, .inl (fun _ => 0))), (q1, .inl (y.2 0, 12, .inl (fun _ => 0))), (q0, .inl (y.2 0, 12, .inl (fun _ => 0))), (a, .inr (5, [.null, .ref q0, .ref q1, .ref q2, .ref q3, .null, .null, .int 0, .int 0, .int 0]))] ++ wf) 5 48 [(0, .ref a), (1, .ref b1)] 41 [.ref q4, .ref a]
    refine jc_putF (pc' := 44) (ws' := [(q4, .inl (y.2 0, 8, .inl (fun _ => 0))), (q3, .inl (y.2 0, 8, .inl (fun _ => 0))), (q2, .inl (y.2 0, 8, .inl (fun _ => 0))), (q1, .inl (y.2 0, 12, .inl (fun _ => 0))), (q0, .inl (y.2 0, 12, .inl (fun _ => 0))), (a, .inr (5, [.null, .ref q0, .ref q1, .ref q2, .ref q3, .ref q4, .null, .int 0, .int 0, .int 0]))] ++ wf) (C := RX5) (T := TX5) (N := 10) (ci := 5) (ty := .array .int) hκ (hI rfl) (mi inlX5) tyX5 tyX5_ok nmX5 5 rfl rfl 5 (by decide) (mc wm_5_11) rfl rfl rfl (by decide +kernel) rfl rfl (Nat.le_of_ble_eq_true rfl) rfl dX5_init_41 rfl ?_
    refine jc_aload_n (pc' := 45) hκ 0 rfl rfl dX5_init_44 rfl ?_
    refine jc_bipush (pc' := 47) (v := 8) hκ (by decide) dX5_init_45 rfl ?_
    refine jc_newaI (pc' := 49) (N := 8) (cells' := 6) (slots' := 56) hκ (mc wm_3_9) (by decide) rfl (Nat.le_of_ble_eq_true rfl) rfl rfl (Nat.le_of_ble_eq_true rfl) (Nat.le_of_ble_eq_true rfl) dX5_init_47 rfl (fun q5 => ?_)
    show Jc κ y 2 ([(q5, .inl (y.2 0, 8, .inl (fun _ => 0))), (q4, .inl (y.2 0, 8, .inl (fun _ => 0))), (q3, .inl (y.2 0, 8, .inl (fun _ => 0))), (q2, .inl (y.2 0, 8, .inl (fun _ => 0))), (q1, .inl (y.2 0, 12, .inl (fun _ => 0))), (q0, .inl (y.2 0, 12, .inl (fun _ => 0))), (a, .inr (5, [.null, .ref q0, .ref q1, .ref q2, .ref q3, .ref q4, .null, .int 0, .int 0, .int 0]))] ++ wf) 6 56 [(0, .ref a), (1, .ref b1)] 49 [.ref q5, .ref a]
    refine jc_putF (pc' := 52) (ws' := [(q5, .inl (y.2 0, 8, .inl (fun _ => 0))), (q4, .inl (y.2 0, 8, .inl (fun _ => 0))), (q3, .inl (y.2 0, 8, .inl (fun _ => 0))), (q2, .inl (y.2 0, 8, .inl (fun _ => 0))), (q1, .inl (y.2 0, 12, .inl (fun _ => 0))), (q0, .inl (y.2 0, 12, .inl (fun _ => 0))), (a, .inr (5, [.null, .ref q0, .ref q1, .ref q2, .ref q3, .ref q4, .ref q5, .int 0, .int 0, .int 0]))] ++ wf) (C := RX5) (T := TX5) (N := 10) (ci := 5) (ty := .array .int) hκ (hI rfl) (mi inlX5) tyX5 tyX5_ok nmX5 6 rfl rfl 6 (by decide) (mc wm_5_12) rfl rfl rfl (by decide +kernel) rfl rfl (Nat.le_of_ble_eq_true rfl) rfl dX5_init_49 rfl ?_
    refine jc_aload_n (pc' := 53) hκ 0 rfl rfl dX5_init_52 rfl ?_
    refine jc_iconst (pc' := 54) (v := 0) hκ (by decide) dX5_init_53 rfl ?_
    refine jc_put (pc' := 57) (ws' := [(q5, .inl (y.2 0, 8, .inl (fun _ => 0))), (q4, .inl (y.2 0, 8, .inl (fun _ => 0))), (q3, .inl (y.2 0, 8, .inl (fun _ => 0))), (q2, .inl (y.2 0, 8, .inl (fun _ => 0))), (q1, .inl (y.2 0, 12, .inl (fun _ => 0))), (q0, .inl (y.2 0, 12, .inl (fun _ => 0))), (a, .inr (5, [.null, .ref q0, .ref q1, .ref q2, .ref q3, .ref q4, .ref q5, .int 0, .int 0, .int 0]))] ++ wf) (C := RX5) (T := TX5) (N := 10) (ci := 5) (ty := .boolean) hκ (mi inlX5) tyX5 tyX5_ok nmX5 6 rfl rfl 7 (by decide) (mc wm_5_13) rfl rfl (by decide +kernel) rfl rfl (Nat.le_of_ble_eq_true rfl) rfl dX5_init_54 rfl ?_
    refine jc_aload_n (pc' := 58) hκ 0 rfl rfl dX5_init_57 rfl ?_
    refine jc_iconst (pc' := 59) (v := 0) hκ (by decide) dX5_init_58 rfl ?_
    refine jc_put (pc' := 62) (ws' := [(q5, .inl (y.2 0, 8, .inl (fun _ => 0))), (q4, .inl (y.2 0, 8, .inl (fun _ => 0))), (q3, .inl (y.2 0, 8, .inl (fun _ => 0))), (q2, .inl (y.2 0, 8, .inl (fun _ => 0))), (q1, .inl (y.2 0, 12, .inl (fun _ => 0))), (q0, .inl (y.2 0, 12, .inl (fun _ => 0))), (a, .inr (5, [.null, .ref q0, .ref q1, .ref q2, .ref q3, .ref q4, .ref q5, .int 0, .int 0, .int 0]))] ++ wf) (C := RX5) (T := TX5) (N := 10) (ci := 5) (ty := .int) hκ (mi inlX5) tyX5 tyX5_ok nmX5 6 rfl rfl 8 (by decide) (mc wm_5_14) rfl rfl (by decide +kernel) rfl rfl (Nat.le_of_ble_eq_true rfl) rfl dX5_init_59 rfl ?_
    refine jc_aload_n (pc' := 63) hκ 0 rfl rfl dX5_init_62 rfl ?_
    refine jc_ldc (pc' := 65) hκ (mc wm_5_15) dX5_init_63 rfl ?_
    refine jc_put (pc' := 68) (ws' := [(q5, .inl (y.2 0, 8, .inl (fun _ => 0))), (q4, .inl (y.2 0, 8, .inl (fun _ => 0))), (q3, .inl (y.2 0, 8, .inl (fun _ => 0))), (q2, .inl (y.2 0, 8, .inl (fun _ => 0))), (q1, .inl (y.2 0, 12, .inl (fun _ => 0))), (q0, .inl (y.2 0, 12, .inl (fun _ => 0))), (a, .inr (5, [.null, .ref q0, .ref q1, .ref q2, .ref q3, .ref q4, .ref q5, .int 0, .int 0, .int 2147483647]))] ++ wf) (C := RX5) (T := TX5) (N := 10) (ci := 5) (ty := .int) hκ (mi inlX5) tyX5 tyX5_ok nmX5 6 rfl rfl 9 (by decide) (mc wm_5_16) rfl rfl (by decide +kernel) rfl rfl (Nat.le_of_ble_eq_true rfl) rfl dX5_init_65 rfl ?_
    refine jc_aload_n (pc' := 69) hκ 0 rfl rfl dX5_init_68 rfl ?_
    refine jc_aload_n (pc' := 70) hκ 1 rfl rfl dX5_init_69 rfl ?_
    refine jc_putF (pc' := 73) (ws' := [(q5, .inl (y.2 0, 8, .inl (fun _ => 0))), (q4, .inl (y.2 0, 8, .inl (fun _ => 0))), (q3, .inl (y.2 0, 8, .inl (fun _ => 0))), (q2, .inl (y.2 0, 8, .inl (fun _ => 0))), (q1, .inl (y.2 0, 12, .inl (fun _ => 0))), (q0, .inl (y.2 0, 12, .inl (fun _ => 0))), (a, .inr (5, [.ref b1, .ref q0, .ref q1, .ref q2, .ref q3, .ref q4, .ref q5, .int 0, .int 0, .int 2147483647]))] ++ wf) (C := RX5) (T := TX5) (N := 10) (ci := 5) (ty := .object "LampRound$Lamps") hκ (hI rfl) (mi inlX5) tyX5 tyX5_ok nmX5 6 rfl rfl 0 (by decide) (mc wm_5_17) rfl rfl rfl (by decide +kernel) rfl rfl (Nat.le_of_ble_eq_true rfl) rfl dX5_init_70 rfl ?_
    exact hR ((fun i => [q0, q1, q2, q3, q4, q5].getD i 0, fun _ => 0, fun _ => 0)) _ _ dX5_init_73 trivial)
theorem wm_5_20 : Cond.methodLink RX0 3 objectInit ∈ wAll := inr_5 (List.mem_of_getElem? (i := 20) rfl)
def ce_Case (y : Cy) (a : Nat) (u : (Nat → Nat) × (Nat → Nat) × (Nat → Int32)) : va_W := [((u.1 3), .inl (y.2 2, 66, .inl (fun _ => 0))), ((u.1 2), .inl (y.2 0, 66, .inl (fun _ => 0))), ((u.1 1), .inl (y.2 0, 12, .inl (fun _ => 0))), ((u.1 0), .inl (y.2 0, 12, .inl (fun _ => 0))), (a, .inr (0, [.ref (u.1 0), .ref (u.1 1), .ref (u.1 2), .ref (u.1 3), .int 0, .int 0]))]
def cr_Case (y : Cy) (u : (Nat → Nat) × (Nat → Nat) × (Nat → Int32)) : va_W := []
abbrev rk_Case : Room := { frames := 1, cells := 4, slots := 156, locals := 20 }
set_option maxHeartbeats 4000000 in
set_option maxRecDepth 100000 in
theorem k_Case {y : Cy} {wf : va_W} {a : Nat} : ∀ (l : Launch) (sz : Nat), Met l yX0_init wq_X0_init rk_Case (va_Pc [.ref a] (PC y ((a, .inr (0, [.null, .null, .null, .null, .int 0, .int 0])) :: wf) sz)) (va_Qv (fun u : (Nat → Nat) × (Nat → Nat) × (Nat → Int32) => True) (fun u t => va_P y.1 vwCl (ce_Case y a u ++ (cr_Case y u ++ wf)) t.heap ∧ va_D (va_A ((a, .inr (0, [.null, .null, .null, .null, .int 0, .int 0])) :: wf) sz) (ce_Case y a u ++ (cr_Case y u ++ wf))) (va_A ((a, .inr (0, [.null, .null, .null, .null, .int 0, .int 0])) :: wf) sz)) 4 156 (va_A ((a, .inr (0, [.null, .null, .null, .null, .int 0, .int 0])) :: wf) sz) :=
  met_c (by decide) rfl [.ref a] rfl (Nat.le_of_ble_eq_true rfl) (fun κ hκ hI hR => by
    show Jc κ y 1 ([(a, .inr (0, [.null, .null, .null, .null, .int 0, .int 0]))] ++ wf) 0 0 [(0, .ref a)] 0 []
    refine jc_aload_n (pc' := 1) hκ 0 rfl rfl dX0_init_0 rfl ?_
    refine jc_obj (pc' := 4) hκ (mc wm_5_20) (mc wm_1_11) (mc wm_1_12) (Nat.le_of_ble_eq_true rfl) (Nat.le_of_ble_eq_true rfl) dX0_init_1 rfl ?_
    refine jc_aload_n (pc' := 5) hκ 0 rfl rfl dX0_init_4 rfl ?_
    refine jc_bipush (pc' := 7) (v := 12) hκ (by decide) dX0_init_5 rfl ?_
    refine jc_newaI (pc' := 9) (N := 12) (cells' := 1) (slots' := 12) hκ (mc wm_3_9) (by decide) rfl (Nat.le_of_ble_eq_true rfl) rfl rfl (Nat.le_of_ble_eq_true rfl) (Nat.le_of_ble_eq_true rfl) dX0_init_7 rfl (fun q0 => ?_)
    show Jc κ y 1 ([(q0, .inl (y.2 0, 12, .inl (fun _ => 0))), (a, .inr (0, [.null, .null, .null, .null, .int 0, .int 0]))] ++ wf) 1 12 [(0, .ref a)] 9 [.ref q0, .ref a]
    refine jc_putF (pc' := 12) (ws' := [(q0, .inl (y.2 0, 12, .inl (fun _ => 0))), (a, .inr (0, [.ref q0, .null, .null, .null, .int 0, .int 0]))] ++ wf) (C := RX0) (T := TX0) (N := 6) (ci := 0) (ty := .array .int) hκ (hI rfl) (mi inlX0) tyX0 tyX0_ok nmX0 1 rfl rfl 0 (by decide) (mc wm_5_21) rfl rfl rfl (by decide +kernel) rfl rfl (Nat.le_of_ble_eq_true rfl) rfl dX0_init_9 rfl ?_
    refine jc_aload_n (pc' := 13) hκ 0 rfl rfl dX0_init_12 rfl ?_
    refine jc_bipush (pc' := 15) (v := 12) hκ (by decide) dX0_init_13 rfl ?_
    refine jc_newaI (pc' := 17) (N := 12) (cells' := 2) (slots' := 24) hκ (mc wm_3_9) (by decide) rfl (Nat.le_of_ble_eq_true rfl) rfl rfl (Nat.le_of_ble_eq_true rfl) (Nat.le_of_ble_eq_true rfl) dX0_init_15 rfl (fun q1 => ?_)
    show Jc κ y 1 ([(q1, .inl (y.2 0, 12, .inl (fun _ => 0))), (q0, .inl (y.2 0, 12, .inl (fun _ => 0))), (a, .inr (0, [.ref q0, .null, .null, .null, .int 0, .int 0]))] ++ wf) 2 24 [(0, .ref a)] 17 [.ref q1, .ref a]
    refine jc_putF (pc' := 20) (ws' := [(q1, .inl (y.2 0, 12, .inl (fun _ => 0))), (q0, .inl (y.2 0, 12, .inl (fun _ => 0))), (a, .inr (0, [.ref q0, .ref q1, .null, .null, .int 0, .int 0]))] ++ wf) (C := RX0) (T := TX0) (N := 6) (ci := 0) (ty := .array .int) hκ (hI rfl) (mi inlX0) tyX0 tyX0_ok nmX0 2 rfl rfl 1 (by decide) (mc wm_5_22) rfl rfl rfl (by decide +kernel) rfl rfl (Nat.le_of_ble_eq_true rfl) rfl dX0_init_17 rfl ?_
    refine jc_aload_n (pc' := 21) hκ 0 rfl rfl dX0_init_20 rfl ?_
    refine jc_bipush (pc' := 23) (v := 66) hκ (by decide) dX0_init_21 rfl ?_
    refine jc_newaI (pc' := 25) (N := 66) (cells' := 3) (slots' := 90) hκ (mc wm_3_9) (by decide) rfl (Nat.le_of_ble_eq_true rfl) rfl rfl (Nat.le_of_ble_eq_true rfl) (Nat.le_of_ble_eq_true rfl) dX0_init_23 rfl (fun q2 => ?_)
    show Jc κ y 1 ([(q2, .inl (y.2 0, 66, .inl (fun _ => 0))), (q1, .inl (y.2 0, 12, .inl (fun _ => 0))), (q0, .inl (y.2 0, 12, .inl (fun _ => 0))), (a, .inr (0, [.ref q0, .ref q1, .null, .null, .int 0, .int 0]))] ++ wf) 3 90 [(0, .ref a)] 25 [.ref q2, .ref a]
    refine jc_putF (pc' := 28) (ws' := [(q2, .inl (y.2 0, 66, .inl (fun _ => 0))), (q1, .inl (y.2 0, 12, .inl (fun _ => 0))), (q0, .inl (y.2 0, 12, .inl (fun _ => 0))), (a, .inr (0, [.ref q0, .ref q1, .ref q2, .null, .int 0, .int 0]))] ++ wf) (C := RX0) (T := TX0) (N := 6) (ci := 0) (ty := .array .int) hκ (hI rfl) (mi inlX0) tyX0 tyX0_ok nmX0 3 rfl rfl 2 (by decide) (mc wm_5_23) rfl rfl rfl (by decide +kernel) rfl rfl (Nat.le_of_ble_eq_true rfl) rfl dX0_init_25 rfl ?_
    refine jc_aload_n (pc' := 29) hκ 0 rfl rfl dX0_init_28 rfl ?_
    refine jc_bipush (pc' := 31) (v := 66) hκ (by decide) dX0_init_29 rfl ?_
    refine jc_newaZ (pc' := 33) (N := 66) (cells' := 4) (slots' := 156) hκ (mc wm_3_22) (by decide) rfl (Nat.le_of_ble_eq_true rfl) rfl rfl (Nat.le_of_ble_eq_true rfl) (Nat.le_of_ble_eq_true rfl) dX0_init_31 rfl (fun q3 => ?_)
    show Jc κ y 1 ([(q3, .inl (y.2 2, 66, .inl (fun _ => 0))), (q2, .inl (y.2 0, 66, .inl (fun _ => 0))), (q1, .inl (y.2 0, 12, .inl (fun _ => 0))), (q0, .inl (y.2 0, 12, .inl (fun _ => 0))), (a, .inr (0, [.ref q0, .ref q1, .ref q2, .null, .int 0, .int 0]))] ++ wf) 4 156 [(0, .ref a)] 33 [.ref q3, .ref a]
    refine jc_putF (pc' := 36) (ws' := [(q3, .inl (y.2 2, 66, .inl (fun _ => 0))), (q2, .inl (y.2 0, 66, .inl (fun _ => 0))), (q1, .inl (y.2 0, 12, .inl (fun _ => 0))), (q0, .inl (y.2 0, 12, .inl (fun _ => 0))), (a, .inr (0, [.ref q0, .ref q1, .ref q2, .ref q3, .int 0, .int 0]))] ++ wf) (C := RX0) (T := TX0) (N := 6) (ci := 0) (ty := .array .boolean) hκ (hI rfl) (mi inlX0) tyX0 tyX0_ok nmX0 4 rfl rfl 3 (by decide) (mc wm_6_0) rfl rfl rfl (by decide +kernel) rfl rfl (Nat.le_of_ble_eq_true rfl) rfl dX0_init_33 rfl ?_
    refine jc_aload_n (pc' := 37) hκ 0 rfl rfl dX0_init_36 rfl ?_
    refine jc_iconst (pc' := 38) (v := 0) hκ (by decide) dX0_init_37 rfl ?_
    refine jc_put (pc' := 41) (ws' := [(q3, .inl (y.2 2, 66, .inl (fun _ => 0))), (q2, .inl (y.2 0, 66, .inl (fun _ => 0))), (q1, .inl (y.2 0, 12, .inl (fun _ => 0))), (q0, .inl (y.2 0, 12, .inl (fun _ => 0))), (a, .inr (0, [.ref q0, .ref q1, .ref q2, .ref q3, .int 0, .int 0]))] ++ wf) (C := RX0) (T := TX0) (N := 6) (ci := 0) (ty := .int) hκ (mi inlX0) tyX0 tyX0_ok nmX0 4 rfl rfl 4 (by decide) (mc wm_6_1) rfl rfl (by decide +kernel) rfl rfl (Nat.le_of_ble_eq_true rfl) rfl dX0_init_38 rfl ?_
    refine jc_aload_n (pc' := 42) hκ 0 rfl rfl dX0_init_41 rfl ?_
    refine jc_iconst (pc' := 43) (v := 0) hκ (by decide) dX0_init_42 rfl ?_
    refine jc_put (pc' := 46) (ws' := [(q3, .inl (y.2 2, 66, .inl (fun _ => 0))), (q2, .inl (y.2 0, 66, .inl (fun _ => 0))), (q1, .inl (y.2 0, 12, .inl (fun _ => 0))), (q0, .inl (y.2 0, 12, .inl (fun _ => 0))), (a, .inr (0, [.ref q0, .ref q1, .ref q2, .ref q3, .int 0, .int 0]))] ++ wf) (C := RX0) (T := TX0) (N := 6) (ci := 0) (ty := .boolean) hκ (mi inlX0) tyX0 tyX0_ok nmX0 4 rfl rfl 5 (by decide) (mc wm_6_2) rfl rfl (by decide +kernel) rfl rfl (Nat.le_of_ble_eq_true rfl) rfl dX0_init_43 rfl ?_
    exact hR ((fun i => [q0, q1, q2, q3].getD i 0, fun _ => 0, fun _ => 0)) _ _ dX0_init_46 trivial)
theorem wm_6_6 : Cond.methodLink RX8 3 objectInit ∈ wAll := inr_6 (List.mem_of_getElem? (i := 6) rfl)
def ce_Tree (y : Cy) (a : Nat) (b1 : Nat) (b2 : Nat) (u : (Nat → Nat) × (Nat → Nat) × (Nat → Int32)) : va_W := [((u.1 2), .inl (y.2 0, 12, .inl (fun _ => 0))), ((u.1 1), .inl (y.2 0, 12, .inl (fun _ => 0))), ((u.1 0), .inl (y.2 1, 66, .inr (.inl (fun _ => 0)))), (a, .inr (8, [.ref b1, .ref b2, .ref (u.1 0), .ref (u.1 1), .ref (u.1 2), .int 0, .int 0, .int 0, .long 0]))]
def cr_Tree (y : Cy) (u : (Nat → Nat) × (Nat → Nat) × (Nat → Int32)) : va_W := []
abbrev rk_Tree : Room := { frames := 1, cells := 3, slots := 90, locals := 20 }
set_option maxHeartbeats 4000000 in
set_option maxRecDepth 100000 in
theorem k_Tree {y : Cy} {wf : va_W} {a : Nat} {b1 : Nat} {b2 : Nat} : ∀ (l : Launch) (sz : Nat), Met l yX8_init wq_X8_init rk_Tree (va_Pc [.ref a, .ref b1, .ref b2] (PC y ((a, .inr (8, [.null, .null, .null, .null, .null, .int 0, .int 0, .int 0, .long 0])) :: wf) sz)) (va_Qv (fun u : (Nat → Nat) × (Nat → Nat) × (Nat → Int32) => True) (fun u t => va_P y.1 vwCl (ce_Tree y a b1 b2 u ++ (cr_Tree y u ++ wf)) t.heap ∧ va_D (va_A ((a, .inr (8, [.null, .null, .null, .null, .null, .int 0, .int 0, .int 0, .long 0])) :: wf) sz) (ce_Tree y a b1 b2 u ++ (cr_Tree y u ++ wf))) (va_A ((a, .inr (8, [.null, .null, .null, .null, .null, .int 0, .int 0, .int 0, .long 0])) :: wf) sz)) 3 90 (va_A ((a, .inr (8, [.null, .null, .null, .null, .null, .int 0, .int 0, .int 0, .long 0])) :: wf) sz) :=
  met_c (by decide) rfl [.ref a, .ref b1, .ref b2] rfl (Nat.le_of_ble_eq_true rfl) (fun κ hκ hI hR => by
    show Jc κ y 3 ([(a, .inr (8, [.null, .null, .null, .null, .null, .int 0, .int 0, .int 0, .long 0]))] ++ wf) 0 0 [(0, .ref a), (1, .ref b1), (2, .ref b2)] 0 []
    refine jc_aload_n (pc' := 1) hκ 0 rfl rfl dX8_init_0 rfl ?_
    refine jc_obj (pc' := 4) hκ (mc wm_6_6) (mc wm_1_11) (mc wm_1_12) (Nat.le_of_ble_eq_true rfl) (Nat.le_of_ble_eq_true rfl) dX8_init_1 rfl ?_
    refine jc_aload_n (pc' := 5) hκ 0 rfl rfl dX8_init_4 rfl ?_
    refine jc_bipush (pc' := 7) (v := 66) hκ (by decide) dX8_init_5 rfl ?_
    refine jc_newaJ (pc' := 9) (N := 66) (cells' := 1) (slots' := 66) hκ (mc wm_3_7) (by decide) rfl (Nat.le_of_ble_eq_true rfl) rfl rfl (Nat.le_of_ble_eq_true rfl) (Nat.le_of_ble_eq_true rfl) dX8_init_7 rfl (fun q0 => ?_)
    show Jc κ y 3 ([(q0, .inl (y.2 1, 66, .inr (.inl (fun _ => 0)))), (a, .inr (8, [.null, .null, .null, .null, .null, .int 0, .int 0, .int 0, .long 0]))] ++ wf) 1 66 [(0, .ref a), (1, .ref b1), (2, .ref b2)] 9 [.ref q0, .ref a]
    refine jc_putF (pc' := 12) (ws' := [(q0, .inl (y.2 1, 66, .inr (.inl (fun _ => 0)))), (a, .inr (8, [.null, .null, .ref q0, .null, .null, .int 0, .int 0, .int 0, .long 0]))] ++ wf) (C := RX8) (T := TX8) (N := 9) (ci := 8) (ty := .array .long) hκ (hI rfl) (mi inlX8) tyX8 tyX8_ok nmX8 1 rfl rfl 2 (by decide) (mc wm_6_7) rfl rfl rfl (by decide +kernel) rfl rfl (Nat.le_of_ble_eq_true rfl) rfl dX8_init_9 rfl ?_
    refine jc_aload_n (pc' := 13) hκ 0 rfl rfl dX8_init_12 rfl ?_
    refine jc_bipush (pc' := 15) (v := 12) hκ (by decide) dX8_init_13 rfl ?_
    refine jc_newaI (pc' := 17) (N := 12) (cells' := 2) (slots' := 78) hκ (mc wm_3_9) (by decide) rfl (Nat.le_of_ble_eq_true rfl) rfl rfl (Nat.le_of_ble_eq_true rfl) (Nat.le_of_ble_eq_true rfl) dX8_init_15 rfl (fun q1 => ?_)
    show Jc κ y 3 ([(q1, .inl (y.2 0, 12, .inl (fun _ => 0))), (q0, .inl (y.2 1, 66, .inr (.inl (fun _ => 0)))), (a, .inr (8, [.null, .null, .ref q0, .null, .null, .int 0, .int 0, .int 0, .long 0]))] ++ wf) 2 78 [(0, .ref a), (1, .ref b1), (2, .ref b2)] 17 [.ref q1, .ref a]
    refine jc_putF (pc' := 20) (ws' := [(q1, .inl (y.2 0, 12, .inl (fun _ => 0))), (q0, .inl (y.2 1, 66, .inr (.inl (fun _ => 0)))), (a, .inr (8, [.null, .null, .ref q0, .ref q1, .null, .int 0, .int 0, .int 0, .long 0]))] ++ wf) (C := RX8) (T := TX8) (N := 9) (ci := 8) (ty := .array .int) hκ (hI rfl) (mi inlX8) tyX8 tyX8_ok nmX8 2 rfl rfl 3 (by decide) (mc wm_6_8) rfl rfl rfl (by decide +kernel) rfl rfl (Nat.le_of_ble_eq_true rfl) rfl dX8_init_17 rfl ?_
    refine jc_aload_n (pc' := 21) hκ 0 rfl rfl dX8_init_20 rfl ?_
    refine jc_bipush (pc' := 23) (v := 12) hκ (by decide) dX8_init_21 rfl ?_
    refine jc_newaI (pc' := 25) (N := 12) (cells' := 3) (slots' := 90) hκ (mc wm_3_9) (by decide) rfl (Nat.le_of_ble_eq_true rfl) rfl rfl (Nat.le_of_ble_eq_true rfl) (Nat.le_of_ble_eq_true rfl) dX8_init_23 rfl (fun q2 => ?_)
    show Jc κ y 3 ([(q2, .inl (y.2 0, 12, .inl (fun _ => 0))), (q1, .inl (y.2 0, 12, .inl (fun _ => 0))), (q0, .inl (y.2 1, 66, .inr (.inl (fun _ => 0)))), (a, .inr (8, [.null, .null, .ref q0, .ref q1, .null, .int 0, .int 0, .int 0, .long 0]))] ++ wf) 3 90 [(0, .ref a), (1, .ref b1), (2, .ref b2)] 25 [.ref q2, .ref a]
    refine jc_putF (pc' := 28) (ws' := [(q2, .inl (y.2 0, 12, .inl (fun _ => 0))), (q1, .inl (y.2 0, 12, .inl (fun _ => 0))), (q0, .inl (y.2 1, 66, .inr (.inl (fun _ => 0)))), (a, .inr (8, [.null, .null, .ref q0, .ref q1, .ref q2, .int 0, .int 0, .int 0, .long 0]))] ++ wf) (C := RX8) (T := TX8) (N := 9) (ci := 8) (ty := .array .int) hκ (hI rfl) (mi inlX8) tyX8 tyX8_ok nmX8 3 rfl rfl 4 (by decide) (mc wm_6_9) rfl rfl rfl (by decide +kernel) rfl rfl (Nat.le_of_ble_eq_true rfl) rfl dX8_init_25 rfl ?_
    refine jc_aload_n (pc' := 29) hκ 0 rfl rfl dX8_init_28 rfl ?_
    refine jc_iconst (pc' := 30) (v := 0) hκ (by decide) dX8_init_29 rfl ?_
    refine jc_put (pc' := 33) (ws' := [(q2, .inl (y.2 0, 12, .inl (fun _ => 0))), (q1, .inl (y.2 0, 12, .inl (fun _ => 0))), (q0, .inl (y.2 1, 66, .inr (.inl (fun _ => 0)))), (a, .inr (8, [.null, .null, .ref q0, .ref q1, .ref q2, .int 0, .int 0, .int 0, .long 0]))] ++ wf) (C := RX8) (T := TX8) (N := 9) (ci := 8) (ty := .int) hκ (mi inlX8) tyX8 tyX8_ok nmX8 3 rfl rfl 5 (by decide) (mc wm_6_10) rfl rfl (by decide +kernel) rfl rfl (Nat.le_of_ble_eq_true rfl) rfl dX8_init_30 rfl ?_
    refine jc_aload_n (pc' := 34) hκ 0 rfl rfl dX8_init_33 rfl ?_
    refine jc_iconst (pc' := 35) (v := 0) hκ (by decide) dX8_init_34 rfl ?_
    refine jc_put (pc' := 38) (ws' := [(q2, .inl (y.2 0, 12, .inl (fun _ => 0))), (q1, .inl (y.2 0, 12, .inl (fun _ => 0))), (q0, .inl (y.2 1, 66, .inr (.inl (fun _ => 0)))), (a, .inr (8, [.null, .null, .ref q0, .ref q1, .ref q2, .int 0, .int 0, .int 0, .long 0]))] ++ wf) (C := RX8) (T := TX8) (N := 9) (ci := 8) (ty := .int) hκ (mi inlX8) tyX8 tyX8_ok nmX8 3 rfl rfl 6 (by decide) (mc wm_6_11) rfl rfl (by decide +kernel) rfl rfl (Nat.le_of_ble_eq_true rfl) rfl dX8_init_35 rfl ?_
    refine jc_aload_n (pc' := 39) hκ 0 rfl rfl dX8_init_38 rfl ?_
    refine jc_iconst (pc' := 40) (v := 0) hκ (by decide) dX8_init_39 rfl ?_
    refine jc_put (pc' := 43) (ws' := [(q2, .inl (y.2 0, 12, .inl (fun _ => 0))), (q1, .inl (y.2 0, 12, .inl (fun _ => 0))), (q0, .inl (y.2 1, 66, .inr (.inl (fun _ => 0)))), (a, .inr (8, [.null, .null, .ref q0, .ref q1, .ref q2, .int 0, .int 0, .int 0, .long 0]))] ++ wf) (C := RX8) (T := TX8) (N := 9) (ci := 8) (ty := .int) hκ (mi inlX8) tyX8 tyX8_ok nmX8 3 rfl rfl 7 (by decide) (mc wm_6_12) rfl rfl (by decide +kernel) rfl rfl (Nat.le_of_ble_eq_true rfl) rfl dX8_init_40 rfl ?_
    refine jc_aload_n (pc' := 44) hκ 0 rfl rfl dX8_init_43 rfl ?_
    refine jc_lconst (pc' := 45) (v := 0) hκ (by decide) dX8_init_44 rfl ?_
    refine jc_put (pc' := 48) (ws' := [(q2, .inl (y.2 0, 12, .inl (fun _ => 0))), (q1, .inl (y.2 0, 12, .inl (fun _ => 0))), (q0, .inl (y.2 1, 66, .inr (.inl (fun _ => 0)))), (a, .inr (8, [.null, .null, .ref q0, .ref q1, .ref q2, .int 0, .int 0, .int 0, .long 0]))] ++ wf) (C := RX8) (T := TX8) (N := 9) (ci := 8) (ty := .long) hκ (mi inlX8) tyX8 tyX8_ok nmX8 3 rfl rfl 8 (by decide) (mc wm_6_13) rfl rfl (by decide +kernel) rfl rfl (Nat.le_of_ble_eq_true rfl) rfl dX8_init_45 rfl ?_
    refine jc_aload_n (pc' := 49) hκ 0 rfl rfl dX8_init_48 rfl ?_
    refine jc_aload_n (pc' := 50) hκ 1 rfl rfl dX8_init_49 rfl ?_
    refine jc_putF (pc' := 53) (ws' := [(q2, .inl (y.2 0, 12, .inl (fun _ => 0))), (q1, .inl (y.2 0, 12, .inl (fun _ => 0))), (q0, .inl (y.2 1, 66, .inr (.inl (fun _ => 0)))), (a, .inr (8, [.ref b1, .null, .ref q0, .ref q1, .ref q2, .int 0, .int 0, .int 0, .long 0]))] ++ wf) (C := RX8) (T := TX8) (N := 9) (ci := 8) (ty := .object "LampRound$Lamps") hκ (hI rfl) (mi inlX8) tyX8 tyX8_ok nmX8 3 rfl rfl 0 (by decide) (mc wm_6_14) rfl rfl rfl (by decide +kernel) rfl rfl (Nat.le_of_ble_eq_true rfl) rfl dX8_init_50 rfl ?_
    refine jc_aload_n (pc' := 54) hκ 0 rfl rfl dX8_init_53 rfl ?_
    refine jc_aload_n (pc' := 55) hκ 2 rfl rfl dX8_init_54 rfl ?_
    refine jc_putF (pc' := 58) (ws' := [(q2, .inl (y.2 0, 12, .inl (fun _ => 0))), (q1, .inl (y.2 0, 12, .inl (fun _ => 0))), (q0, .inl (y.2 1, 66, .inr (.inl (fun _ => 0)))), (a, .inr (8, [.ref b1, .ref b2, .ref q0, .ref q1, .ref q2, .int 0, .int 0, .int 0, .long 0]))] ++ wf) (C := RX8) (T := TX8) (N := 9) (ci := 8) (ty := .object "LampRound$Case") hκ (hI rfl) (mi inlX8) tyX8 tyX8_ok nmX8 3 rfl rfl 1 (by decide) (mc wm_6_15) rfl rfl rfl (by decide +kernel) rfl rfl (Nat.le_of_ble_eq_true rfl) rfl dX8_init_55 rfl ?_
    exact hR ((fun i => [q0, q1, q2].getD i 0, fun _ => 0, fun _ => 0)) _ _ dX8_init_58 trivial)
theorem wm_6_19 : Cond.methodLink RX1 3 objectInit ∈ wAll := inr_6 (List.mem_of_getElem? (i := 19) rfl)
def ce_Judge (y : Cy) (a : Nat) (b1 : Nat) (b2 : Nat) (b3 : Nat) (u : (Nat → Nat) × (Nat → Nat) × (Nat → Int32)) : va_W := [(a, .inr (1, [.ref b1, .ref b2, .ref b3]))]
def cr_Judge (y : Cy) (u : (Nat → Nat) × (Nat → Nat) × (Nat → Int32)) : va_W := []
abbrev rk_Judge : Room := { frames := 1, cells := 0, slots := 0, locals := 20 }
set_option maxHeartbeats 4000000 in
set_option maxRecDepth 100000 in
theorem k_Judge {y : Cy} {wf : va_W} {a : Nat} {b1 : Nat} {b2 : Nat} {b3 : Nat} : ∀ (l : Launch) (sz : Nat), Met l yX1_init wq_X1_init rk_Judge (va_Pc [.ref a, .ref b1, .ref b2, .ref b3] (PC y ((a, .inr (1, [.null, .null, .null])) :: wf) sz)) (va_Qv (fun u : (Nat → Nat) × (Nat → Nat) × (Nat → Int32) => True) (fun u t => va_P y.1 vwCl (ce_Judge y a b1 b2 b3 u ++ (cr_Judge y u ++ wf)) t.heap ∧ va_D (va_A ((a, .inr (1, [.null, .null, .null])) :: wf) sz) (ce_Judge y a b1 b2 b3 u ++ (cr_Judge y u ++ wf))) (va_A ((a, .inr (1, [.null, .null, .null])) :: wf) sz)) 0 0 (va_A ((a, .inr (1, [.null, .null, .null])) :: wf) sz) :=
  met_c (by decide) rfl [.ref a, .ref b1, .ref b2, .ref b3] rfl (Nat.le_of_ble_eq_true rfl) (fun κ hκ hI hR => by
    show Jc κ y 4 ([(a, .inr (1, [.null, .null, .null]))] ++ wf) 0 0 [(0, .ref a), (1, .ref b1), (2, .ref b2), (3, .ref b3)] 0 []
    refine jc_aload_n (pc' := 1) hκ 0 rfl rfl dX1_init_0 rfl ?_
    refine jc_obj (pc' := 4) hκ (mc wm_6_19) (mc wm_1_11) (mc wm_1_12) (Nat.le_of_ble_eq_true rfl) (Nat.le_of_ble_eq_true rfl) dX1_init_1 rfl ?_
    refine jc_aload_n (pc' := 5) hκ 0 rfl rfl dX1_init_4 rfl ?_
    refine jc_aload_n (pc' := 6) hκ 1 rfl rfl dX1_init_5 rfl ?_
    refine jc_putF (pc' := 9) (ws' := [(a, .inr (1, [.ref b1, .null, .null]))] ++ wf) (C := RX1) (T := TX1) (N := 3) (ci := 1) (ty := .object "LampRound$Lamps") hκ (hI rfl) (mi inlX1) tyX1 tyX1_ok nmX1 0 rfl rfl 0 (by decide) (mc wm_6_20) rfl rfl rfl (by decide +kernel) rfl rfl (Nat.le_of_ble_eq_true rfl) rfl dX1_init_6 rfl ?_
    refine jc_aload_n (pc' := 10) hκ 0 rfl rfl dX1_init_9 rfl ?_
    refine jc_aload_n (pc' := 11) hκ 2 rfl rfl dX1_init_10 rfl ?_
    refine jc_putF (pc' := 14) (ws' := [(a, .inr (1, [.ref b1, .ref b2, .null]))] ++ wf) (C := RX1) (T := TX1) (N := 3) (ci := 1) (ty := .object "LampRound$Case") hκ (hI rfl) (mi inlX1) tyX1 tyX1_ok nmX1 0 rfl rfl 1 (by decide) (mc wm_6_21) rfl rfl rfl (by decide +kernel) rfl rfl (Nat.le_of_ble_eq_true rfl) rfl dX1_init_11 rfl ?_
    refine jc_aload_n (pc' := 15) hκ 0 rfl rfl dX1_init_14 rfl ?_
    refine jc_aload_n (pc' := 16) hκ 3 rfl rfl dX1_init_15 rfl ?_
    refine jc_putF (pc' := 19) (ws' := [(a, .inr (1, [.ref b1, .ref b2, .ref b3]))] ++ wf) (C := RX1) (T := TX1) (N := 3) (ci := 1) (ty := .object "LampRound$Tree") hκ (hI rfl) (mi inlX1) tyX1 tyX1_ok nmX1 0 rfl rfl 2 (by decide) (mc wm_6_22) rfl rfl rfl (by decide +kernel) rfl rfl (Nat.le_of_ble_eq_true rfl) rfl dX1_init_16 rfl ?_
    exact hR ((fun i => [].getD i 0, fun _ => 0, fun _ => 0)) _ _ dX1_init_19 trivial)
theorem wm_7_1 : Cond.methodLink RX3 3 objectInit ∈ wAll := inr_7 (List.mem_of_getElem? (i := 1) rfl)
def ce_Lines (y : Cy) (a : Nat) (u : (Nat → Nat) × (Nat → Nat) × (Nat → Int32)) : va_W := [((u.1 2), .inl (y.2 0, 400, .inl (fun _ => 0))), ((u.1 1), .inl (y.2 0, 400, .inl (fun _ => 0))), ((u.1 0), .inl (y.2 0, 400, .inl (fun _ => 0))), (a, .inr (3, [.ref (u.1 0), .ref (u.1 1), .ref (u.1 2), .int 0]))]
def cr_Lines (y : Cy) (u : (Nat → Nat) × (Nat → Nat) × (Nat → Int32)) : va_W := []
abbrev rk_Lines : Room := { frames := 1, cells := 3, slots := 1200, locals := 20 }
set_option maxHeartbeats 4000000 in
set_option maxRecDepth 100000 in
theorem k_Lines {y : Cy} {wf : va_W} {a : Nat} : ∀ (l : Launch) (sz : Nat), Met l yX3_init wq_X3_init rk_Lines (va_Pc [.ref a] (PC y ((a, .inr (3, [.null, .null, .null, .int 0])) :: wf) sz)) (va_Qv (fun u : (Nat → Nat) × (Nat → Nat) × (Nat → Int32) => True) (fun u t => va_P y.1 vwCl (ce_Lines y a u ++ (cr_Lines y u ++ wf)) t.heap ∧ va_D (va_A ((a, .inr (3, [.null, .null, .null, .int 0])) :: wf) sz) (ce_Lines y a u ++ (cr_Lines y u ++ wf))) (va_A ((a, .inr (3, [.null, .null, .null, .int 0])) :: wf) sz)) 3 1200 (va_A ((a, .inr (3, [.null, .null, .null, .int 0])) :: wf) sz) :=
  met_c (by decide) rfl [.ref a] rfl (Nat.le_of_ble_eq_true rfl) (fun κ hκ hI hR => by
    show Jc κ y 1 ([(a, .inr (3, [.null, .null, .null, .int 0]))] ++ wf) 0 0 [(0, .ref a)] 0 []
    refine jc_aload_n (pc' := 1) hκ 0 rfl rfl dX3_init_0 rfl ?_
    refine jc_obj (pc' := 4) hκ (mc wm_7_1) (mc wm_1_11) (mc wm_1_12) (Nat.le_of_ble_eq_true rfl) (Nat.le_of_ble_eq_true rfl) dX3_init_1 rfl ?_
    refine jc_aload_n (pc' := 5) hκ 0 rfl rfl dX3_init_4 rfl ?_
    refine jc_sipush (pc' := 8) (v := 400) hκ (by decide) dX3_init_5 rfl ?_
    refine jc_newaI (pc' := 10) (N := 400) (cells' := 1) (slots' := 400) hκ (mc wm_3_9) (by decide) rfl (Nat.le_of_ble_eq_true rfl) rfl rfl (Nat.le_of_ble_eq_true rfl) (Nat.le_of_ble_eq_true rfl) dX3_init_8 rfl (fun q0 => ?_)
    show Jc κ y 1 ([(q0, .inl (y.2 0, 400, .inl (fun _ => 0))), (a, .inr (3, [.null, .null, .null, .int 0]))] ++ wf) 1 400 [(0, .ref a)] 10 [.ref q0, .ref a]
    refine jc_putF (pc' := 13) (ws' := [(q0, .inl (y.2 0, 400, .inl (fun _ => 0))), (a, .inr (3, [.ref q0, .null, .null, .int 0]))] ++ wf) (C := RX3) (T := TX3) (N := 4) (ci := 3) (ty := .array .int) hκ (hI rfl) (mi inlX3) tyX3 tyX3_ok nmX3 1 rfl rfl 0 (by decide) (mc wm_7_2) rfl rfl rfl (by decide +kernel) rfl rfl (Nat.le_of_ble_eq_true rfl) rfl dX3_init_10 rfl ?_
    refine jc_aload_n (pc' := 14) hκ 0 rfl rfl dX3_init_13 rfl ?_
    refine jc_sipush (pc' := 17) (v := 400) hκ (by decide) dX3_init_14 rfl ?_
    refine jc_newaI (pc' := 19) (N := 400) (cells' := 2) (slots' := 800) hκ (mc wm_3_9) (by decide) rfl (Nat.le_of_ble_eq_true rfl) rfl rfl (Nat.le_of_ble_eq_true rfl) (Nat.le_of_ble_eq_true rfl) dX3_init_17 rfl (fun q1 => ?_)
    show Jc κ y 1 ([(q1, .inl (y.2 0, 400, .inl (fun _ => 0))), (q0, .inl (y.2 0, 400, .inl (fun _ => 0))), (a, .inr (3, [.ref q0, .null, .null, .int 0]))] ++ wf) 2 800 [(0, .ref a)] 19 [.ref q1, .ref a]
    refine jc_putF (pc' := 22) (ws' := [(q1, .inl (y.2 0, 400, .inl (fun _ => 0))), (q0, .inl (y.2 0, 400, .inl (fun _ => 0))), (a, .inr (3, [.ref q0, .ref q1, .null, .int 0]))] ++ wf) (C := RX3) (T := TX3) (N := 4) (ci := 3) (ty := .array .int) hκ (hI rfl) (mi inlX3) tyX3 tyX3_ok nmX3 2 rfl rfl 1 (by decide) (mc wm_7_3) rfl rfl rfl (by decide +kernel) rfl rfl (Nat.le_of_ble_eq_true rfl) rfl dX3_init_19 rfl ?_
    refine jc_aload_n (pc' := 23) hκ 0 rfl rfl dX3_init_22 rfl ?_
    refine jc_sipush (pc' := 26) (v := 400) hκ (by decide) dX3_init_23 rfl ?_
    refine jc_newaI (pc' := 28) (N := 400) (cells' := 3) (slots' := 1200) hκ (mc wm_3_9) (by decide) rfl (Nat.le_of_ble_eq_true rfl) rfl rfl (Nat.le_of_ble_eq_true rfl) (Nat.le_of_ble_eq_true rfl) dX3_init_26 rfl (fun q2 => ?_)
    show Jc κ y 1 ([(q2, .inl (y.2 0, 400, .inl (fun _ => 0))), (q1, .inl (y.2 0, 400, .inl (fun _ => 0))), (q0, .inl (y.2 0, 400, .inl (fun _ => 0))), (a, .inr (3, [.ref q0, .ref q1, .null, .int 0]))] ++ wf) 3 1200 [(0, .ref a)] 28 [.ref q2, .ref a]
    refine jc_putF (pc' := 31) (ws' := [(q2, .inl (y.2 0, 400, .inl (fun _ => 0))), (q1, .inl (y.2 0, 400, .inl (fun _ => 0))), (q0, .inl (y.2 0, 400, .inl (fun _ => 0))), (a, .inr (3, [.ref q0, .ref q1, .ref q2, .int 0]))] ++ wf) (C := RX3) (T := TX3) (N := 4) (ci := 3) (ty := .array .int) hκ (hI rfl) (mi inlX3) tyX3 tyX3_ok nmX3 3 rfl rfl 2 (by decide) (mc wm_7_4) rfl rfl rfl (by decide +kernel) rfl rfl (Nat.le_of_ble_eq_true rfl) rfl dX3_init_28 rfl ?_
    refine jc_aload_n (pc' := 32) hκ 0 rfl rfl dX3_init_31 rfl ?_
    refine jc_iconst (pc' := 33) (v := 0) hκ (by decide) dX3_init_32 rfl ?_
    refine jc_put (pc' := 36) (ws' := [(q2, .inl (y.2 0, 400, .inl (fun _ => 0))), (q1, .inl (y.2 0, 400, .inl (fun _ => 0))), (q0, .inl (y.2 0, 400, .inl (fun _ => 0))), (a, .inr (3, [.ref q0, .ref q1, .ref q2, .int 0]))] ++ wf) (C := RX3) (T := TX3) (N := 4) (ci := 3) (ty := .int) hκ (mi inlX3) tyX3 tyX3_ok nmX3 3 rfl rfl 3 (by decide) (mc wm_7_5) rfl rfl (by decide +kernel) rfl rfl (Nat.le_of_ble_eq_true rfl) rfl dX3_init_33 rfl ?_
    exact hR ((fun i => [q0, q1, q2].getD i 0, fun _ => 0, fun _ => 0)) _ _ dX3_init_36 trivial)
