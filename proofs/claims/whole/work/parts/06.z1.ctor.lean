/-! ===== BEGIN new T[n][m]: the outer array a place, the inner ones among the pooled ===== -/
/-- f, but v at every address of l -/
def vr_up {α : Type} (f : Nat → α) (l : List Nat) (v : α) : Nat → α := fun a => if a ∈ l then v else f a
theorem vr_up_in {α : Type} {f : Nat → α} {l : List Nat} {v : α} {a : Nat} (h : a ∈ l) : vr_up f l v a = v := if_pos h
theorem vr_up_ne {α : Type} {f : Nat → α} {l : List Nat} {v : α} {a : Nat} (h : a ∉ l) : vr_up f l v a = f a := if_neg h
theorem vr_rows {L l : List Nat} {f : Nat → va_E} {e : va_E} (h : ∀ a, a ∈ l → a ∉ L) : va_pl L f ++ l.map (fun a => (a, e)) = va_pl (L ++ l) (vr_up f l e) := by
  unfold va_pl
  rw [List.map_append]
  congr 1
  · apply List.map_congr_left
    intro a ha
    rw [vr_up_ne (fun q => h a q ha)]
  · apply List.map_congr_left
    intro a ha
    rw [vr_up_in ha]
theorem vr_lay {X rows : va_W} {x : Nat × va_E} {pl : va_W} {D : va_G} {cl : List vw_C} {H : Heap} (hP : va_P D cl (((X ++ pl) ++ [x]) ++ rows) H) : va_P D cl ((X ++ [x]) ++ (pl ++ rows)) H := by
  rw [List.append_assoc (X ++ pl)] at hP
  have h := va_P.swap hP
  rw [← List.append_assoc X] at h
  have h2 := va_P.swap h
  rw [List.append_assoc (X ++ [x])] at h2
  exact h2
theorem vr_layD {X rows : va_W} {x : Nat × va_E} {pl : va_W} {A : Nat → Prop} (hD : va_D A (((X ++ pl) ++ [x]) ++ rows)) : va_D A ((X ++ [x]) ++ (pl ++ rows)) := by
  rw [List.append_assoc (X ++ pl)] at hD
  have h := va_D.swap hD
  rw [← List.append_assoc X] at h
  have h2 := va_D.swap h
  rw [List.append_assoc (X ++ [x])] at h2
  exact h2
theorem vr_outer (c : ClassId) (N h0 : Nat) : ∀ i : Nat, Jvm.Free.Multi.outerC c N h0 i = arrV c N (fun j => va_rf (if j < i then some (h0 + 1 + j) else none))
  | 0 => by
    show ({ cls := c, slots := Array.replicate N .null, vm := .none } : Cell) = _
    rw [arrV_new]
    refine congrArg (arrV c N) (funext fun j => ?_)
    simp [va_rf]
  | i + 1 => by
    show (Jvm.Free.Multi.outerC c N h0 i).setSlot i (.ref (h0 + 1 + i)) = _
    rw [vr_outer c N h0 i, arrV_store]
    refine congrArg (arrV c N) (funext fun j => ?_)
    by_cases e : j = i
    · subst e
      simp [updV, va_rf]
    · by_cases h : j < i
      · simp [updV, e, h, Nat.lt_succ_of_lt h]
      · simp [updV, e, h, show ¬ j < i + 1 by omega]
def va_AOA (ty : FieldType) (U : State) : Prop := (Cond.arrayOver (.array ty)).before #[] U = true
theorem va_AOA.use {ty : FieldType} {A : Array Value} {U : State} (h : va_AOA ty U) : (Cond.arrayOver (.array ty)).before A U = true := h
theorem va_AOA.same {ty : FieldType} {u U : State} (e : u.vm = U.vm) (h : va_AOA ty u) : va_AOA ty U := by
  unfold va_AOA Cond.before Cond.holds at h ⊢
  simp only [Cond.value] at h ⊢
  rw [← e]
  exact h
theorem va_AOA.alike {ty : FieldType} {u U : State} (e : u.vm.Alike U.vm) (h : va_AOA ty u) : va_AOA ty U := Jvm.Stand.arrayOver_alikeB e h
section VGM
variable {p : Program} {l : Launch} {e : Env} {R : Room} {s : State} {m : MethodId} {args : Array Value} {below : List Frame} {meth : Method} {c : Code} {H : Heap} {locs : List Loc} {cells slots : Nat} {Q : State → Prop}
variable {cc : ByteArray} {pc : Nat} {ls : Array Slot} {rest : List Value} {D : va_G} {cl : List vw_C} {A : Nat → Prop} {a : Nat} {tys : List (ClassId × FieldType)} {ws : va_W} {H0 : Heap}
theorem va_mna {X : va_W} {L : List Nat} {f : Nat → va_E} {cc : ByteArray} (hexec : p.tables.exec = Jvm.exec) (hb : c.code = cc) {own : String} {index : Nat} {ty : FieldType} {cy : ClassId} (hown : s.vm.findClass own = some m.cls) (hclink : (Cond.classLink own index ("[" ++ (FieldType.array ty).toString)).before args s = true) (hover : va_AOA ty s) (harr : (Cond.arrayClass ty).before args s = true) (hcy : s.vm.findClass (FieldType.array ty).toString = some cy)
    (hK : va_K D cl tys s) (hP : va_P D cl (X ++ va_pl L f) H) (hD : va_D A (X ++ va_pl L f)) (hS : va_S A H0 H locs) (hA : ∀ q, H0.size ≤ q → A q) {n k : Int32} {N' K' : Nat} {z : vp_A} (hn : ¬ n < 0) (hk : ¬ k < 0) (hN : n.toNatClampNeg = N') (hM : k.toNatClampNeg = K')
    (hb1 : N' * 4 ≤ 536870912) (hb2 : K' * componentBytes ty ≤ 536870912) (hb3 : K' ≤ 536870912) (hdf : fits ty (defaultValue ty) = true) (hdd : (defaultValue ty).isDefault = true) (hcells : cells + (1 + N') ≤ R.cells) (hslots : slots + (N' + N' * K') ≤ R.slots) (hz : ∀ c : ClassId, Jvm.Free.Multi.innerC c K' (defaultValue ty) = vp_cell c z) (hdg : decode cc pc = .ok (.multianewarray index 2, 4))
    (kk : ∀ (q : Nat) (r : Nat → Nat) (cA : ClassId) (H1 : Heap), (∀ i j : Nat, i < N' → j < N' → r i = r j → i = j) → (∀ i : Nat, i < N' → r i ∉ L) → va_K D cl (tys ++ [(cA, .array ty)]) s →
      va_P D cl ((X ++ [(q, .inl (cA, N', .inr (.inr (.inr (.inr (fun i => if i < N' then some (r i) else none))))))]) ++ va_pl (L ++ (List.range N').map r) (vr_up f ((List.range N').map r) (.inl (cy, z)))) H1 → va_D A ((X ++ [(q, .inl (cA, N', .inr (.inr (.inr (.inr (fun i => if i < N' then some (r i) else none))))))]) ++ va_pl (L ++ (List.range N').map r) (vr_up f ((List.range N').map r) (.inl (cy, z)))) → va_S A H0 H1 locs →
      W p l e R s m args below meth c H1 locs (cells + 1 + N') (slots + N' + N' * K') Q (F0 m (pc + 4) ls (.ref q :: rest))) : W p l e R s m args below meth c H locs cells slots Q (F0 m pc ls (.int k :: .int n :: rest)) := by
  subst hN
  subst hM
  intro T hT Xs
  obtain ⟨vm₁, cA, comp, -, fA, fC, hO, -, X', step⟩ := Xs.multianewarray2F hexec hown hclink (va_AOA.use hover) harr (g := F0 m pc ls (.int k :: .int n :: rest)) rfl (by rw [hb]; exact hdg) rfl hn hk hb1 hb2 hb3 hdf hdd hcells hslots
  have ec : some cy = some comp := hcy.symm.trans fC
  cases ec
  generalize hF : Jvm.Free.Multi.fill (T.setVm vm₁) cA cy n.toNatClampNeg k.toNatClampNeg (defaultValue ty) n.toNatClampNeg = F at X' step
  have hTh : (T.setVm vm₁).heap = H := hT
  obtain ⟨f1, f2, -, -⟩ := Jvm.Free.Multi.fill_facts (T.setVm vm₁) cA cy n.toNatClampNeg k.toNatClampNeg (defaultValue ty) n.toNatClampNeg
  rw [hF, hTh] at f1 f2
  have hold : ∀ x : Nat, x < H.size → F.heap[x]? = H[x]? := fun x hx => by
    have := Jvm.Free.Multi.fill_old (T.setVm vm₁) cA cy n.toNatClampNeg k.toNatClampNeg (defaultValue ty) (a := x) (by rw [hTh]; exact hx) n.toNatClampNeg
    rw [hF, hTh] at this
    exact this
  have hrow : ∀ j : Nat, j < n.toNatClampNeg → F.heap[H.size + 1 + j]? = some (vp_cell cy z) := fun j hj => by
    have := Jvm.Free.Multi.fill_inner (T.setVm vm₁) cA cy n.toNatClampNeg k.toNatClampNeg (defaultValue ty) n.toNatClampNeg j hj
    rw [hF, hTh, hz] at this
    exact this
  have hout : Jvm.Free.Multi.outerC cA n.toNatClampNeg H.size n.toNatClampNeg = vp_cell cA (n.toNatClampNeg, .inr (.inr (.inr (.inr (fun i => if i < n.toNatClampNeg then some (H.size + 1 + i) else none))))) := by
    rw [vp_cell_q]
    exact vr_outer cA n.toNatClampNeg H.size n.toNatClampNeg
  rw [hout] at f2
  have hlt : ∀ a, a ∈ L → a < H.size := fun a ha => by
    obtain ⟨k9, hk9⟩ := va_pl_get (X := X) (f := f) ha
    exact (hP k9 _ hk9).lt
  have hnl : ∀ i : Nat, i < n.toNatClampNeg → H.size + 1 + i ∉ L := fun i _ h => by
    have := hlt _ h
    omega
  have hnm : ∀ a, a ∈ (List.range n.toNatClampNeg).map (fun i => H.size + 1 + i) → a ∉ L := fun a ha h => by
    obtain ⟨i, -, rfl⟩ := List.mem_map.mp ha
    have := hlt _ h
    omega
  have hP0 : va_P D cl (X ++ va_pl L f) F.heap := hP.kept (fun k9 x hx => hold x.1 ((hP k9 x hx).lt))
  have hP1 : va_P D cl ((X ++ va_pl L f) ++ [(H.size, .inl (cA, n.toNatClampNeg, .inr (.inr (.inr (.inr (fun i => if i < n.toNatClampNeg then some (H.size + 1 + i) else none))))))]) F.heap := hP0.app (fun k9 x hx => by
    have h0 : k9 < 1 := (List.getElem?_eq_some_iff.mp hx).1
    rw [show k9 = 0 by omega] at hx
    cases hx
    exact f2)
  have hP2 : va_P D cl (((X ++ va_pl L f) ++ [(H.size, .inl (cA, n.toNatClampNeg, .inr (.inr (.inr (.inr (fun i => if i < n.toNatClampNeg then some (H.size + 1 + i) else none))))))]) ++ ((List.range n.toNatClampNeg).map (fun i => H.size + 1 + i)).map (fun a => (a, .inl (cy, z)))) F.heap := hP1.app (fun k9 x hx => by
    obtain ⟨a, ha, rfl⟩ := List.mem_map.mp (List.mem_of_getElem? hx)
    obtain ⟨i, hi, rfl⟩ := List.mem_map.mp ha
    exact hrow i (List.mem_range.mp hi))
  have hD2 : va_D A (((X ++ va_pl L f) ++ [(H.size, .inl (cA, n.toNatClampNeg, .inr (.inr (.inr (.inr (fun i => if i < n.toNatClampNeg then some (H.size + 1 + i) else none))))))]) ++ ((List.range n.toNatClampNeg).map (fun i => H.size + 1 + i)).map (fun a => (a, .inl (cy, z)))) := by
    have hD1 := hD.push (e := .inl (cA, n.toNatClampNeg, .inr (.inr (.inr (.inr (fun i => if i < n.toNatClampNeg then some (H.size + 1 + i) else none)))))) hP rfl (hA _ hS.1)
    generalize hW1 : (X ++ va_pl L f) ++ [(H.size, .inl (cA, n.toNatClampNeg, .inr (.inr (.inr (.inr (fun i => if i < n.toNatClampNeg then some (H.size + 1 + i) else none))))))] = W1 at hD1 hP1 ⊢
    have hle : ∀ (k9 : Nat) (x : Nat × va_E), W1[k9]? = some x → x.1 ≤ H.size := fun k9 x hx => by
      rw [← hW1] at hx
      by_cases hl : k9 < (X ++ va_pl L f).length
      · rw [List.getElem?_append_left hl] at hx
        exact Nat.le_of_lt ((hP k9 x hx).lt)
      · rw [List.getElem?_append_right (by omega)] at hx
        have h0 : k9 - (X ++ va_pl L f).length < 1 := (List.getElem?_eq_some_iff.mp hx).1
        rw [show k9 - (X ++ va_pl L f).length = 0 by omega] at hx
        cases hx
        exact Nat.le_refl _
    have hr : ∀ (k9 : Nat) (x : Nat × va_E), (((List.range n.toNatClampNeg).map (fun i => H.size + 1 + i)).map (fun a => ((a, .inl (cy, z)) : Nat × va_E)))[k9]? = some x → x.1 = H.size + 1 + k9 := fun k9 x hx => by
      rw [List.getElem?_map, List.getElem?_map] at hx
      by_cases h9 : k9 < n.toNatClampNeg
      · rw [List.getElem?_range h9] at hx
        cases hx
        rfl
      · have hn0 : (List.range n.toNatClampNeg)[k9]? = none := List.getElem?_eq_none (by rw [List.length_range]; omega)
        rw [hn0] at hx
        cases hx
    refine ⟨fun i j x y hi hj hxy => ?_, fun k9 x hx => ?_⟩
    · by_cases h1 : i < W1.length <;> by_cases h2 : j < W1.length
      · rw [List.getElem?_append_left h1] at hi
        rw [List.getElem?_append_left h2] at hj
        exact hD1.1 i j x y hi hj hxy
      · rw [List.getElem?_append_left h1] at hi
        rw [List.getElem?_append_right (by omega)] at hj
        have := hle _ _ hi
        have := hr _ _ hj
        omega
      · rw [List.getElem?_append_right (by omega)] at hi
        rw [List.getElem?_append_left h2] at hj
        have := hle _ _ hj
        have := hr _ _ hi
        omega
      · rw [List.getElem?_append_right (by omega)] at hi hj
        have := hr _ _ hi
        have := hr _ _ hj
        omega
    · by_cases h1 : k9 < W1.length
      · rw [List.getElem?_append_left h1] at hx
        exact hD1.2 k9 x hx
      · rw [List.getElem?_append_right (by omega)] at hx
        have := hr _ _ hx
        exact hA _ (by have := hS.1; omega)
  have hAr : ArrOfT s cA (.array ty) := fun N9 z9 => by
    obtain ⟨-, k9, hk9, cm9, hkk9⟩ := (hO 0 0 0).1
    exact ⟨(fun q hq => by cases hq), k9, hk9, cm9, hkk9⟩
  have hK2 : va_K D cl (tys ++ [(cA, .array ty)]) s := ⟨hK.1, fun k9 x hx => by
    by_cases hl : k9 < tys.length
    · rw [List.getElem?_append_left hl] at hx
      exact hK.2 k9 x hx
    · rw [List.getElem?_append_right (by omega)] at hx
      have h0 : k9 - tys.length < 1 := (List.getElem?_eq_some_iff.mp hx).1
      rw [show k9 - tys.length = 0 by omega] at hx
      cases hx
      exact ⟨hAr, fA⟩⟩
  obtain ⟨t, a1, b1⟩ := kk H.size (fun i => H.size + 1 + i) cA F.heap (fun i j _ _ h => by have h9 : H.size + 1 + i = H.size + 1 + j := h; omega) hnl hK2 (by rw [← vr_rows hnm]; exact vr_lay hP2) (by rw [← vr_rows hnm]; exact vr_layD hD2) ⟨by rw [f1]; have := hS.1; omega, fun x h1 h2 => (hold x (Nat.lt_of_lt_of_le h1 hS.1)).trans (hS.2.1 x h1 h2), hS.2.2⟩ F rfl X'
  refine ⟨t, step t ?_, b1⟩
  have e : T.heap.size = H.size := by rw [hT]
  rw [e]
  exact a1
end VGM
/-! ===== END ===== -/

abbrev Cy : Type := va_G × (Nat → ClassId)
def ctys (y : Cy) : List (ClassId × FieldType) := [(y.2 0, .int), (y.2 1, .long), (y.2 2, .boolean), (y.2 3, .array .int), (y.2 4, .array .long)]
def AOs (U : State) : Prop := va_AOA .int U ∧ va_AOA .long U
theorem AOs.same {u U : State} (e : u.vm = U.vm) (h : AOs u) : AOs U := ⟨h.1.same e, h.2.same e⟩
theorem AOs.alike {u U : State} (e : u.vm.Alike U.vm) (h : AOs u) : AOs U := ⟨h.1.alike e, h.2.alike e⟩
theorem pw_iff {D : va_G} {cl : List vw_C} {ws : va_W} {H : Heap} : va_P D cl ws H ↔ ∀ q ∈ ws, va_at D cl q H := ⟨fun h q hq => by obtain ⟨k, hk⟩ := List.getElem?_of_mem hq; exact h k q hk, fun h k q hk => h q (List.mem_of_getElem? hk)⟩
theorem pw_perm {D : va_G} {cl : List vw_C} {ws ws' : va_W} {H : Heap} (hp : ws.Perm ws') (h : va_P D cl ws H) : va_P D cl ws' H := pw_iff.mpr (fun q hq => pw_iff.mp h q (hp.mem_iff.mpr hq))
theorem dw_iff {A : Nat → Prop} {ws : va_W} : va_D A ws ↔ (ws.map Prod.fst).Nodup ∧ ∀ q ∈ ws, A q.1 := by
  constructor
  · intro h
    refine ⟨List.pairwise_iff_getElem.mpr ?_, fun q hq => by obtain ⟨k, hk⟩ := List.getElem?_of_mem hq; exact h.2 k q hk⟩
    intro i j hi hj hij e
    rw [List.length_map] at hi hj
    rw [List.getElem_map, List.getElem_map] at e
    have := h.1 i j _ _ (List.getElem?_eq_getElem hi) (List.getElem?_eq_getElem hj) e
    omega
  · intro h
    refine ⟨fun i j p q hp hq e => ?_, fun k q hk => h.2 q (List.mem_of_getElem? hk)⟩
    obtain ⟨hi, rfl⟩ := List.getElem?_eq_some_iff.mp hp
    obtain ⟨hj, rfl⟩ := List.getElem?_eq_some_iff.mp hq
    have hn := List.pairwise_iff_getElem.mp h.1
    rcases Nat.lt_trichotomy i j with hl | hl | hl
    · exact absurd (by rw [List.getElem_map, List.getElem_map]; exact e) (hn i j (by rw [List.length_map]; exact hi) (by rw [List.length_map]; exact hj) hl)
    · exact hl
    · exact absurd (by rw [List.getElem_map, List.getElem_map]; exact e.symm) (hn j i (by rw [List.length_map]; exact hj) (by rw [List.length_map]; exact hi) hl)
theorem dw_perm {A : Nat → Prop} {ws ws' : va_W} (hp : ws.Perm ws') (h : va_D A ws) : va_D A ws' := by
  rw [dw_iff] at h ⊢
  exact ⟨(hp.map Prod.fst).nodup_iff.mp h.1, fun q hq => h.2 q (hp.mem_iff.mpr hq)⟩
def CFc (κ : Cx) (y : Cy) (own : String) (cc : ByteArray) (Ts : List Cond) (nL : Nat) (rm : Room) : Prop := match κ with
  | (p, _, _, R, s, m, args, _, meth, c, _, _, _, A) => p.tables.exec = Jvm.exec ∧ c.code = cc ∧ c.maxLocals = nL ∧ s.vm.findClass own = some m.cls ∧ (∀ w ∈ Ts, w.before args s = true) ∧ va_K y.1 vwCl (ctys y) s ∧ NW s ∧ AOs s ∧ (∀ q, s.heap.size ≤ q → A q) ∧ R = rm
def Jc (κ : Cx) (y : Cy) (nL : Nat) (ws : va_W) (cells slots : Nat) (lv : List (Nat × Value)) (pc : Nat) (st : List Value) : Prop := match κ with
  | (p, l, e, R, s, m, args, below, meth, c, _, _, Q, A) => ∀ (H : Heap) (locs : List Loc) (ls : Array Slot), va_P y.1 vwCl ws H → va_D A ws → va_S A s.heap H locs → lv_has ls nL lv → W p l e R s m args below meth c H locs cells slots Q (F0 m pc ls st)
/-- the method is a constructor -/
def Ini (κ : Cx) : Prop := match κ with
  | (_, _, _, _, _, _, _, _, meth, _, _, _, _, _) => meth.name = "<init>"
section JC
variable {κ : Cx} {y : Cy} {own : String} {cc : ByteArray} {Ts : List Cond} {nL : Nat} {rm : Room} {ws ws' : va_W} {cells slots cells' slots' : Nat} {lv : List (Nat × Value)} {pc pc' : Nat} {st : List Value}
theorem jc_perm (hp : ws.Perm ws') (h : Jc κ y nL ws' cells slots lv pc st) : Jc κ y nL ws cells slots lv pc st := by
  obtain ⟨p, l, e, R, s, m, args, below, meth, c, c0, s0, Q, A⟩ := κ
  intro H locs ls hP hD hS hl
  exact h H locs ls (pw_perm hp hP) (dw_perm hp hD) hS hl
theorem jc_aload_n {k : Fin 4} {i : Nat} {x : Nat} (hκ : CFc κ y own cc Ts nL rm) (j : Nat) (hj : lv[j]? = some (i, .ref x)) (hi : (k : Nat) = i) (hd : decode cc pc = .ok (.aload_n k, 1)) (ep : pc + 1 = pc') (h : Jc κ y nL ws cells slots lv pc' (.ref x :: st)) : Jc κ y nL ws cells slots lv pc (st) := by
  obtain ⟨p, l, e, R, s, m, args, below, meth, c, c0, s0, Q, A⟩ := κ
  obtain ⟨hx, hb, hml, hown, hts, hK, hNw, hO, hA, rfl⟩ := hκ
  subst ep
  intro H locs ls hP hD hS hl
  exact lv_aload_n hx hb hd hi (lv_at hl j hj) (h H locs ls hP hD hS hl)
theorem jc_iload_n {k : Fin 4} {i : Nat} {x : Int32} (hκ : CFc κ y own cc Ts nL rm) (j : Nat) (hj : lv[j]? = some (i, .int x)) (hi : (k : Nat) = i) (hd : decode cc pc = .ok (.iload_n k, 1)) (ep : pc + 1 = pc') (h : Jc κ y nL ws cells slots lv pc' (.int x :: st)) : Jc κ y nL ws cells slots lv pc (st) := by
  obtain ⟨p, l, e, R, s, m, args, below, meth, c, c0, s0, Q, A⟩ := κ
  obtain ⟨hx, hb, hml, hown, hts, hK, hNw, hO, hA, rfl⟩ := hκ
  subst ep
  intro H locs ls hP hD hS hl
  exact lv_iload_n hx hb hd hi (lv_at hl j hj) (h H locs ls hP hD hS hl)
theorem jc_iconst {n : Int} {v : Int32} (hκ : CFc κ y own cc Ts nL rm) (hv : Int32.ofInt n = v) (hd : decode cc pc = .ok (.iconst n, 1)) (ep : pc + 1 = pc') (h : Jc κ y nL ws cells slots lv pc' (.int v :: st)) : Jc κ y nL ws cells slots lv pc (st) := by
  obtain ⟨p, l, e, R, s, m, args, below, meth, c, c0, s0, Q, A⟩ := κ
  obtain ⟨hx, hb, hml, hown, hts, hK, hNw, hO, hA, rfl⟩ := hκ
  subst ep
  intro H locs ls hP hD hS hl
  exact lv_iconst hx hb hd hv (h H locs ls hP hD hS hl)
theorem jc_bipush {n : Int} {v : Int32} (hκ : CFc κ y own cc Ts nL rm) (hv : (Int8.ofInt n).toInt32 = v) (hd : decode cc pc = .ok (.bipush n, 2)) (ep : pc + 2 = pc') (h : Jc κ y nL ws cells slots lv pc' (.int v :: st)) : Jc κ y nL ws cells slots lv pc (st) := by
  obtain ⟨p, l, e, R, s, m, args, below, meth, c, c0, s0, Q, A⟩ := κ
  obtain ⟨hx, hb, hml, hown, hts, hK, hNw, hO, hA, rfl⟩ := hκ
  subst ep
  intro H locs ls hP hD hS hl
  exact lv_bipush hx hb hd hv (h H locs ls hP hD hS hl)
theorem jc_sipush {n : Int} {v : Int32} (hκ : CFc κ y own cc Ts nL rm) (hv : (Int16.ofInt n).toInt32 = v) (hd : decode cc pc = .ok (.sipush n, 3)) (ep : pc + 3 = pc') (h : Jc κ y nL ws cells slots lv pc' (.int v :: st)) : Jc κ y nL ws cells slots lv pc (st) := by
  obtain ⟨p, l, e, R, s, m, args, below, meth, c, c0, s0, Q, A⟩ := κ
  obtain ⟨hx, hb, hml, hown, hts, hK, hNw, hO, hA, rfl⟩ := hκ
  subst ep
  intro H locs ls hP hD hS hl
  exact lv_sipush hx hb hd hv (h H locs ls hP hD hS hl)
theorem jc_lconst {n : Fin 2} {v : Int64} (hκ : CFc κ y own cc Ts nL rm) (hv : Int64.ofNat (n : Nat) = v) (hd : decode cc pc = .ok (.lconst n, 1)) (ep : pc + 1 = pc') (h : Jc κ y nL ws cells slots lv pc' (.long v :: st)) : Jc κ y nL ws cells slots lv pc (st) := by
  obtain ⟨p, l, e, R, s, m, args, below, meth, c, c0, s0, Q, A⟩ := κ
  obtain ⟨hx, hb, hml, hown, hts, hK, hNw, hO, hA, rfl⟩ := hκ
  subst ep
  intro H locs ls hP hD hS hl
  exact lv_lconst hx hb hd hv (h H locs ls hP hD hS hl)
theorem jc_ldc {v : Int32} {idx : Nat} (hκ : CFc κ y own cc Ts nL rm) (hw : Cond.constant own idx v ∈ Ts) (hd : decode cc pc = .ok (.ldc idx, 2)) (ep : pc + 2 = pc') (h : Jc κ y nL ws cells slots lv pc' (.int v :: st)) : Jc κ y nL ws cells slots lv pc (st) := by
  obtain ⟨p, l, e, R, s, m, args, below, meth, c, c0, s0, Q, A⟩ := κ
  obtain ⟨hx, hb, hml, hown, hts, hK, hNw, hO, hA, rfl⟩ := hκ
  subst ep
  intro H locs ls hP hD hS hl
  exact lv_ldc hx hb hown (hts _ hw) hd (h H locs ls hP hD hS hl)
theorem jc_dup {v : Value} (hκ : CFc κ y own cc Ts nL rm) (hv : v.category = 1) (hd : decode cc pc = .ok (.dup, 1)) (ep : pc + 1 = pc') (h : Jc κ y nL ws cells slots lv pc' (v :: v :: st)) : Jc κ y nL ws cells slots lv pc (v :: st) := by
  obtain ⟨p, l, e, R, s, m, args, below, meth, c, c0, s0, Q, A⟩ := κ
  obtain ⟨hx, hb, hml, hown, hts, hK, hNw, hO, hA, rfl⟩ := hκ
  subst ep
  intro H locs ls hP hD hS hl
  exact lv_dup hx hb hd hv (h H locs ls hP hD hS hl)
theorem jc_obj {a idx : Nat} (hκ : CFc κ y own cc Ts nL rm) (h1 : Cond.methodLink own idx objectInit ∈ Ts) (h2 : Cond.instanceMethod objectInit ∈ Ts) (h3 : Cond.code objectInit ⟨#[0xb1]⟩ 1 none ∈ Ts) (hf : 1 ≤ rm.frames) (hlo : (st.map fun v => v.category).sum + 12 ≤ rm.locals) (hd : decode cc pc = .ok (.invokespecial idx, 3)) (ep : pc + 3 = pc') (h : Jc κ y nL ws cells slots lv pc' st) : Jc κ y nL ws cells slots lv pc (.ref a :: st) := by
  obtain ⟨p, l, e, R, s, m, args, below, meth, c, c0, s0, Q, A⟩ := κ
  obtain ⟨hx, hb, hml, hown, hts, hK, hNw, hO, hA, rfl⟩ := hκ
  subst ep
  intro H locs ls hP hD hS hl
  refine W.objInit hx hb hown (hts _ h1) (hts _ h2) (hts _ h3) rfl (by rw [hml]; exact hl.1) rfl hd hf (by show 2 * 0 + _ + 12 ≤ _; omega) ?_
  exact W.eq (g2 := F0 m (pc + 3) ls st) rfl (h H locs ls hP hD hS hl)
theorem jc_putF {C ref : String} {T : u_T} {N ci idx a : Nat} {fs : List Value} {v : Value} {ty : FieldType} (hκ : CFc κ y own cc Ts nL rm) (hi9 : Ini κ) (hin : ∀ w ∈ u_ws C T N, w ∈ Ts) (ty0 : Nat → FieldType) (hty : ∀ k, k < N → parseFieldDescriptor (T k).2.2.1 = some (ty0 k)) (hnm : ∀ a, a < N → ∀ b, b < N → a ≠ b → (T a).2.1 ≠ (T b).2.1) (q0 : Nat) (he : ws[q0]? = some (a, .inr (ci, fs))) (hc : vwCl[ci]? = some (C, T, N)) (k : Nat) (hk : k < N) (hlink : Cond.fieldLink own idx ref (T k).2.1 (T k).2.2.1 ∈ Ts) (hsame : (T k).1 = ref) (hfin : (T k).2.2.2 = true) (hdecl : (T k).1 = own) (hd9 : parseFieldDescriptor (T k).2.2.1 = some ty) (hn : narrow ty v = v) (hfit : fits ty v = true) (hl9 : k < fs.length) (hset : ws.set q0 (a, .inr (ci, fs.set k v)) = ws') (hd : decode cc pc = .ok (.putfield idx, 3)) (ep : pc + 3 = pc') (h : Jc κ y nL ws' cells slots lv pc' st) : Jc κ y nL ws cells slots lv pc (v :: .ref a :: st) := by
  obtain ⟨p, l, e, R, s, m, args, below, meth, c, c0, s0, Q, A⟩ := κ
  obtain ⟨hx, hb, hml, hown, hts, hK, hNw, hO, hA, rfl⟩ := hκ
  subst ep
  subst hset
  subst hsame
  intro H locs ls hP hD hS hl
  exact va_putF hx hb hts hin ty0 hty hnm hown hK hP hD hS q0 he hc k hk (hts _ hlink) (fun _ h9 => h9) hfin hi9 hdecl hd9 hn hfit hl9 hd (fun H1 locs1 hP1 hD1 hS1 => h H1 locs1 ls hP1 hD1 hS1 hl)
theorem jc_put {C ref : String} {T : u_T} {N ci idx a : Nat} {fs : List Value} {v : Value} {ty : FieldType} (hκ : CFc κ y own cc Ts nL rm) (hin : ∀ w ∈ u_ws C T N, w ∈ Ts) (ty0 : Nat → FieldType) (hty : ∀ k, k < N → parseFieldDescriptor (T k).2.2.1 = some (ty0 k)) (hnm : ∀ a, a < N → ∀ b, b < N → a ≠ b → (T a).2.1 ≠ (T b).2.1) (q0 : Nat) (he : ws[q0]? = some (a, .inr (ci, fs))) (hc : vwCl[ci]? = some (C, T, N)) (k : Nat) (hk : k < N) (hlink : Cond.fieldLink own idx ref (T k).2.1 (T k).2.2.1 ∈ Ts) (hsame : (T k).1 = ref) (hfin : (T k).2.2.2 = false) (hd9 : parseFieldDescriptor (T k).2.2.1 = some ty) (hn : narrow ty v = v) (hfit : fits ty v = true) (hl9 : k < fs.length) (hset : ws.set q0 (a, .inr (ci, fs.set k v)) = ws') (hd : decode cc pc = .ok (.putfield idx, 3)) (ep : pc + 3 = pc') (h : Jc κ y nL ws' cells slots lv pc' st) : Jc κ y nL ws cells slots lv pc (v :: .ref a :: st) := by
  obtain ⟨p, l, e, R, s, m, args, below, meth, c, c0, s0, Q, A⟩ := κ
  obtain ⟨hx, hb, hml, hown, hts, hK, hNw, hO, hA, rfl⟩ := hκ
  subst ep
  subst hset
  subst hsame
  intro H locs ls hP hD hS hl
  exact va_put hx hb hts hin ty0 hty hnm hown hK hP hD hS q0 he hc k hk (hts _ hlink) (fun _ h9 => h9) hfin hd9 hn hfit hl9 hd (fun H1 locs1 hP1 hD1 hS1 => h H1 locs1 ls hP1 hD1 hS1 hl)
theorem jc_get {C ref : String} {T : u_T} {N ci idx a : Nat} {fs : List Value} {v : Value} (hκ : CFc κ y own cc Ts nL rm) (hin : ∀ w ∈ u_ws C T N, w ∈ Ts) (q0 : Nat) (he : ws[q0]? = some (a, .inr (ci, fs))) (hc : vwCl[ci]? = some (C, T, N)) (k : Nat) (hk : k < N) (hlink : Cond.fieldLink own idx ref (T k).2.1 (T k).2.2.1 ∈ Ts) (hsame : (T k).1 = ref) (hv : fs[k]? = some v) (hd : decode cc pc = .ok (.getfield idx, 3)) (ep : pc + 3 = pc') (h : Jc κ y nL ws cells slots lv pc' (v :: st)) : Jc κ y nL ws cells slots lv pc (.ref a :: st) := by
  obtain ⟨p, l, e, R, s, m, args, below, meth, c, c0, s0, Q, A⟩ := κ
  obtain ⟨hx, hb, hml, hown, hts, hK, hNw, hO, hA, rfl⟩ := hκ
  subst ep
  subst hsame
  intro H locs ls hP hD hS hl
  exact va_get hx hb hts hin hown hK hP q0 he hc k hk (hts _ hlink) (fun _ h9 => h9) hv hd (h H locs ls hP hD hS hl)
theorem jc_new {C : String} {T : u_T} {N ci idx : Nat} {fs : List Value} (hκ : CFc κ y own cc Ts nL rm) (hin : ∀ w ∈ u_ws C T N, w ∈ Ts) (ty0 : Nat → FieldType) (hty : ∀ k, k < N → parseFieldDescriptor (T k).2.2.1 = some (ty0 k)) (h1 : Cond.classLink own idx C ∈ Ts) (h2 : Cond.instantiable C N ∈ Ts) (h3 : Cond.initialized C ∈ Ts) (hc : vwCl[ci]? = some (C, T, N)) (hfs : ∀ j, j < N → defaultValue (ty0 j) = vp_V fs j) (hcells : cells + 1 = cells') (hslots : slots + N = slots') (hc9 : cells' ≤ rm.cells) (hs9 : slots' ≤ rm.slots) (hd : decode cc pc = .ok (.new idx, 3)) (ep : pc + 3 = pc') (h : ∀ q : Nat, Jc κ y nL ((q, .inr (ci, fs)) :: ws) cells' slots' lv pc' (.ref q :: st)) : Jc κ y nL ws cells slots lv pc st := by
  obtain ⟨p, l, e, R, s, m, args, below, meth, c, c0, s0, Q, A⟩ := κ
  obtain ⟨hx, hb, hml, hown, hts, hK, hNw, hO, hA, rfl⟩ := hκ
  subst ep
  subst hcells
  subst hslots
  intro H locs ls hP hD hS hl
  exact va_new hx hb hts hin ty0 hty hown (hts _ h1) (hts _ h2) (hts _ h3) hK hP hD hS hA hc hfs hc9 hs9 hd (fun q H1 hP1 hD1 hS1 => h q H1 locs ls (pw_perm (List.perm_append_singleton _ _) hP1) (dw_perm (List.perm_append_singleton _ _) hD1) hS1 hl)
theorem jc_newaI {n : Int32} {N : Nat} (hκ : CFc κ y own cc Ts nL rm) (h1 : Cond.arrayClass .int ∈ Ts) (hn : ¬ n < 0) (hN : n.toNatClampNeg = N) (hbt : N * componentBytes .int ≤ 536870912) (hcells : cells + 1 = cells') (hslots : slots + N = slots') (hc9 : cells' ≤ rm.cells) (hs9 : slots' ≤ rm.slots) (hd : decode cc pc = .ok (.newarray .int, 2)) (ep : pc + 2 = pc') (h : ∀ q : Nat, Jc κ y nL ((q, .inl (y.2 0, N, .inl (fun _ => 0))) :: ws) cells' slots' lv pc' (.ref q :: st)) : Jc κ y nL ws cells slots lv pc (.int n :: st) := by
  obtain ⟨p, l, e, R, s, m, args, below, meth, c, c0, s0, Q, A⟩ := κ
  obtain ⟨hx, hb, hml, hown, hts, hK, hNw, hO, hA, rfl⟩ := hκ
  subst ep
  subst hcells
  subst hslots
  intro H locs ls hP hD hS hl
  refine va_newa (atype := .int) (a0 := (N, .inl (fun _ => 0))) hx hb (hts _ h1) rfl hK hP hD hS hA (fun cA => rfl) hn hN hbt hc9 hs9 hd (fun q cA H1 hK1 hP1 hD1 hS1 => ?_)
  have e1 : va_RA s cA .int := (hK1.2 5 _ rfl).2
  have e2 : va_RA s (y.2 0) .int := (hK.2 0 _ rfl).2
  have ec : some (y.2 0) = some cA := Eq.trans (Eq.symm e2) e1
  cases ec
  exact h q H1 locs ls (pw_perm (List.perm_append_singleton _ _) hP1) (dw_perm (List.perm_append_singleton _ _) hD1) hS1 hl
theorem jc_newaJ {n : Int32} {N : Nat} (hκ : CFc κ y own cc Ts nL rm) (h1 : Cond.arrayClass .long ∈ Ts) (hn : ¬ n < 0) (hN : n.toNatClampNeg = N) (hbt : N * componentBytes .long ≤ 536870912) (hcells : cells + 1 = cells') (hslots : slots + N = slots') (hc9 : cells' ≤ rm.cells) (hs9 : slots' ≤ rm.slots) (hd : decode cc pc = .ok (.newarray .long, 2)) (ep : pc + 2 = pc') (h : ∀ q : Nat, Jc κ y nL ((q, .inl (y.2 1, N, .inr (.inl (fun _ => 0)))) :: ws) cells' slots' lv pc' (.ref q :: st)) : Jc κ y nL ws cells slots lv pc (.int n :: st) := by
  obtain ⟨p, l, e, R, s, m, args, below, meth, c, c0, s0, Q, A⟩ := κ
  obtain ⟨hx, hb, hml, hown, hts, hK, hNw, hO, hA, rfl⟩ := hκ
  subst ep
  subst hcells
  subst hslots
  intro H locs ls hP hD hS hl
  refine va_newa (atype := .long) (a0 := (N, .inr (.inl (fun _ => 0)))) hx hb (hts _ h1) rfl hK hP hD hS hA (fun cA => rfl) hn hN hbt hc9 hs9 hd (fun q cA H1 hK1 hP1 hD1 hS1 => ?_)
  have e1 : va_RA s cA .long := (hK1.2 5 _ rfl).2
  have e2 : va_RA s (y.2 1) .long := (hK.2 1 _ rfl).2
  have ec : some (y.2 1) = some cA := Eq.trans (Eq.symm e2) e1
  cases ec
  exact h q H1 locs ls (pw_perm (List.perm_append_singleton _ _) hP1) (dw_perm (List.perm_append_singleton _ _) hD1) hS1 hl
theorem jc_newaZ {n : Int32} {N : Nat} (hκ : CFc κ y own cc Ts nL rm) (h1 : Cond.arrayClass .boolean ∈ Ts) (hn : ¬ n < 0) (hN : n.toNatClampNeg = N) (hbt : N * componentBytes .boolean ≤ 536870912) (hcells : cells + 1 = cells') (hslots : slots + N = slots') (hc9 : cells' ≤ rm.cells) (hs9 : slots' ≤ rm.slots) (hd : decode cc pc = .ok (.newarray .boolean, 2)) (ep : pc + 2 = pc') (h : ∀ q : Nat, Jc κ y nL ((q, .inl (y.2 2, N, .inl (fun _ => 0))) :: ws) cells' slots' lv pc' (.ref q :: st)) : Jc κ y nL ws cells slots lv pc (.int n :: st) := by
  obtain ⟨p, l, e, R, s, m, args, below, meth, c, c0, s0, Q, A⟩ := κ
  obtain ⟨hx, hb, hml, hown, hts, hK, hNw, hO, hA, rfl⟩ := hκ
  subst ep
  subst hcells
  subst hslots
  intro H locs ls hP hD hS hl
  refine va_newa (atype := .boolean) (a0 := (N, .inl (fun _ => 0))) hx hb (hts _ h1) rfl hK hP hD hS hA (fun cA => rfl) hn hN hbt hc9 hs9 hd (fun q cA H1 hK1 hP1 hD1 hS1 => ?_)
  have e1 : va_RA s cA .boolean := (hK1.2 5 _ rfl).2
  have e2 : va_RA s (y.2 2) .boolean := (hK.2 2 _ rfl).2
  have ec : some (y.2 2) = some cA := Eq.trans (Eq.symm e2) e1
  cases ec
  exact h q H1 locs ls (pw_perm (List.perm_append_singleton _ _) hP1) (dw_perm (List.perm_append_singleton _ _) hD1) hS1 hl
theorem jc_mnaI {E wf : va_W} {n k : Int32} {N K idx : Nat} (hκ : CFc κ y own cc Ts nL rm) (h0 : Cond.classLink own idx ("[" ++ (FieldType.array .int).toString) ∈ Ts) (h1 : Cond.arrayClass .int ∈ Ts) (hn : ¬ n < 0) (hk : ¬ k < 0) (hN : n.toNatClampNeg = N) (hM : k.toNatClampNeg = K) (hb1 : N * 4 ≤ 536870912) (hb2 : K * componentBytes .int ≤ 536870912) (hb3 : K ≤ 536870912) (hcells : cells + 1 + N = cells') (hslots : slots + N + N * K = slots') (hc9 : cells' ≤ rm.cells) (hs9 : slots' ≤ rm.slots) (hd : decode cc pc = .ok (.multianewarray idx 2, 4)) (ep : pc + 4 = pc') (h : ∀ (q : Nat) (r : Nat → Nat), Jc κ y nL (((q, .inl (y.2 3, N, .inr (.inr (.inr (.inr (fun i => if i < N then some (r i) else none)))))) :: E) ++ ((List.range N).map (fun i => (r i, .inl (y.2 0, K, .inl (fun _ => 0)))) ++ wf)) cells' slots' lv pc' (.ref q :: st)) : Jc κ y nL (E ++ wf) cells slots lv pc (.int k :: .int n :: st) := by
  obtain ⟨p, l, e, R, s, m, args, below, meth, c, c0, s0, Q, A⟩ := κ
  obtain ⟨hx, hb, hml, hown, hts, hK, hNw, hO, hA, rfl⟩ := hκ
  subst ep
  subst hcells
  subst hslots
  intro H locs ls hP hD hS hl
  have e0 : va_RA s (y.2 0) .int := (hK.2 0 _ rfl).2
  have hX : E ++ wf = (E ++ wf) ++ va_pl [] (fun _ => .inr (0, [])) := (List.append_nil _).symm
  rw [hX] at hP hD
  refine va_mna (ty := .int) (cy := y.2 0) (z := (K, .inl (fun _ => 0))) hx hb hown (hts _ h0) hO.1 (hts _ h1) e0 hK hP hD hS hA hn hk hN hM hb1 hb2 hb3 rfl rfl (by omega) (by omega) (fun c => by rw [Jvm.Free.Multi.innerC, arrV_new]; rfl) hd (fun q r cA H1 _ _ hK1 hP1 hD1 hS1 => ?_)
  have e1 : va_RA s cA (.array .int) := (hK1.2 5 _ rfl).2
  have e2 : va_RA s (y.2 3) (.array .int) := (hK.2 3 _ rfl).2
  have ec : some (y.2 3) = some cA := Eq.trans (Eq.symm e2) e1
  cases ec
  have er : va_pl ([] ++ (List.range N).map r) (vr_up (fun _ => .inr (0, [])) ((List.range N).map r) (.inl (y.2 0, K, .inl (fun _ => 0)))) = (List.range N).map (fun i => (r i, .inl (y.2 0, K, .inl (fun _ => 0)))) := by
    unfold va_pl
    rw [List.nil_append, List.map_map]
    refine List.map_congr_left (fun i hi => ?_)
    show (r i, vr_up _ _ _ (r i)) = _
    rw [vr_up_in (List.mem_map.mpr ⟨i, hi, rfl⟩)]
  rw [er] at hP1 hD1
  have hp : ((E ++ wf) ++ [(q, .inl (y.2 3, N, .inr (.inr (.inr (.inr (fun i => if i < N then some (r i) else none))))))] ++ (List.range N).map (fun i => (r i, .inl (y.2 0, K, .inl (fun _ => 0)))) : va_W).Perm (((q, .inl (y.2 3, N, .inr (.inr (.inr (.inr (fun i => if i < N then some (r i) else none)))))) :: E) ++ ((List.range N).map (fun i => (r i, .inl (y.2 0, K, .inl (fun _ => 0)))) ++ wf) : va_W) := by
    refine ((List.perm_append_singleton _ _).append_right _).trans ?_
    rw [List.cons_append, List.cons_append, List.append_assoc]
    exact ((List.perm_append_comm).append_left E).cons _
  exact h q r H1 locs ls (pw_perm hp hP1) (dw_perm hp hD1) hS1 hl
theorem jc_mnaJ {E wf : va_W} {n k : Int32} {N K idx : Nat} (hκ : CFc κ y own cc Ts nL rm) (h0 : Cond.classLink own idx ("[" ++ (FieldType.array .long).toString) ∈ Ts) (h1 : Cond.arrayClass .long ∈ Ts) (hn : ¬ n < 0) (hk : ¬ k < 0) (hN : n.toNatClampNeg = N) (hM : k.toNatClampNeg = K) (hb1 : N * 4 ≤ 536870912) (hb2 : K * componentBytes .long ≤ 536870912) (hb3 : K ≤ 536870912) (hcells : cells + 1 + N = cells') (hslots : slots + N + N * K = slots') (hc9 : cells' ≤ rm.cells) (hs9 : slots' ≤ rm.slots) (hd : decode cc pc = .ok (.multianewarray idx 2, 4)) (ep : pc + 4 = pc') (h : ∀ (q : Nat) (r : Nat → Nat), Jc κ y nL (((q, .inl (y.2 4, N, .inr (.inr (.inr (.inr (fun i => if i < N then some (r i) else none)))))) :: E) ++ ((List.range N).map (fun i => (r i, .inl (y.2 1, K, .inr (.inl (fun _ => 0))))) ++ wf)) cells' slots' lv pc' (.ref q :: st)) : Jc κ y nL (E ++ wf) cells slots lv pc (.int k :: .int n :: st) := by
  obtain ⟨p, l, e, R, s, m, args, below, meth, c, c0, s0, Q, A⟩ := κ
  obtain ⟨hx, hb, hml, hown, hts, hK, hNw, hO, hA, rfl⟩ := hκ
  subst ep
  subst hcells
  subst hslots
  intro H locs ls hP hD hS hl
  have e0 : va_RA s (y.2 1) .long := (hK.2 1 _ rfl).2
  have hX : E ++ wf = (E ++ wf) ++ va_pl [] (fun _ => .inr (0, [])) := (List.append_nil _).symm
  rw [hX] at hP hD
  refine va_mna (ty := .long) (cy := y.2 1) (z := (K, .inr (.inl (fun _ => 0)))) hx hb hown (hts _ h0) hO.2 (hts _ h1) e0 hK hP hD hS hA hn hk hN hM hb1 hb2 hb3 rfl rfl (by omega) (by omega) (fun c => by rw [Jvm.Free.Multi.innerC, arrV_new]; rfl) hd (fun q r cA H1 _ _ hK1 hP1 hD1 hS1 => ?_)
  have e1 : va_RA s cA (.array .long) := (hK1.2 5 _ rfl).2
  have e2 : va_RA s (y.2 4) (.array .long) := (hK.2 4 _ rfl).2
  have ec : some (y.2 4) = some cA := Eq.trans (Eq.symm e2) e1
  cases ec
  have er : va_pl ([] ++ (List.range N).map r) (vr_up (fun _ => .inr (0, [])) ((List.range N).map r) (.inl (y.2 1, K, .inr (.inl (fun _ => 0))))) = (List.range N).map (fun i => (r i, .inl (y.2 1, K, .inr (.inl (fun _ => 0))))) := by
    unfold va_pl
    rw [List.nil_append, List.map_map]
    refine List.map_congr_left (fun i hi => ?_)
    show (r i, vr_up _ _ _ (r i)) = _
    rw [vr_up_in (List.mem_map.mpr ⟨i, hi, rfl⟩)]
  rw [er] at hP1 hD1
  have hp : ((E ++ wf) ++ [(q, .inl (y.2 4, N, .inr (.inr (.inr (.inr (fun i => if i < N then some (r i) else none))))))] ++ (List.range N).map (fun i => (r i, .inl (y.2 1, K, .inr (.inl (fun _ => 0))))) : va_W).Perm (((q, .inl (y.2 4, N, .inr (.inr (.inr (.inr (fun i => if i < N then some (r i) else none)))))) :: E) ++ ((List.range N).map (fun i => (r i, .inl (y.2 1, K, .inr (.inl (fun _ => 0))))) ++ wf) : va_W) := by
    refine ((List.perm_append_singleton _ _).append_right _).trans ?_
    rw [List.cons_append, List.cons_append, List.append_assoc]
    exact ((List.perm_append_comm).append_left E).cons _
  exact h q r H1 locs ls (pw_perm hp hP1) (dw_perm hp hD1) hS1 hl
end JC
