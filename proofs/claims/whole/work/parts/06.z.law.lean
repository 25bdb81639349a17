/-- the law's script, below all that it makes -/
def SC (κ : Cx) (b L : Nat) (xs : Nat → Int32) : Prop := match κ with
  | (_, _, _, _, s, _, _, _, _, _, _, _, _, A) => va_X b L xs s s.heap ∧ b < s.heap.size ∧ ¬ A b
section LW
variable {κ : Cx} {g : Gx} {own : String} {cc : ByteArray} {Ts : List Cond} {nL : Nat} {rm : Room} {X M : ST} {lv : List (Nat × Value)} {pc pc' : Nat} {st : List Value}
theorem j_sld {b L : Nat} {xs : Nat → Int32} {i : Int32} (hκ : CF κ g own cc Ts nL rm) (hsc : SC κ b L xs) (hin : vp_in i L) (hd : decode cc pc = .ok (.iaload, 1)) (ep : pc + 1 = pc') (h : Jw κ g nL X M lv pc' (.int (xs i.toNatClampNeg) :: st)) : Jw κ g nL X M lv pc (.int i :: .ref b :: st) := by
  obtain ⟨p, l, e, R, s, m, args, below, meth, c, cells, slots, Q, A⟩ := κ
  obtain ⟨hx, hb, hml, hown, hts, hK, hN, hD, hAA, rfl, hc9, hs9, hg⟩ := hκ
  subst ep
  intro H locs ls hP hS hl
  exact va_sld hx hb hsc.1 hsc.2.1 hsc.2.2 hS hin hd (h H locs ls hP hS hl)
theorem j_slen {b L : Nat} {xs : Nat → Int32} (hκ : CF κ g own cc Ts nL rm) (hsc : SC κ b L xs) (hd : decode cc pc = .ok (.arraylength, 1)) (ep : pc + 1 = pc') (h : Jw κ g nL X M lv pc' (.int (Int32.ofNat L) :: st)) : Jw κ g nL X M lv pc (.ref b :: st) := by
  obtain ⟨p, l, e, R, s, m, args, below, meth, c, cells, slots, Q, A⟩ := κ
  obtain ⟨hx, hb, hml, hown, hts, hK, hN, hD, hAA, rfl, hc9, hs9, hg⟩ := hκ
  subst ep
  intro H locs ls hP hS hl
  exact va_slen hx hb hsc.1 hsc.2.1 hsc.2.2 hS hd (h H locs ls hP hS hl)
end LW
theorem gNa {c2 : Cond} (h : c2 ∈ wAll) : GoodIn wAll (c2 :: wAll) := fun w q => (List.mem_cons.mp q).elim (fun e => e ▸ ⟨h, gdA h⟩) (fun q => ⟨q, gdA q⟩)
theorem gVa {c2 : Cond} {own : String} {idx : Nat} {C : String} {y : MethodName} (h1 : .methodLink own idx y ∈ wAll) (h2 : .instanceMethod y ∈ wAll) (h3 : .selects C y y ∈ wAll) (h4 : .initialized C ∈ wAll) (h : c2 ∈ wAll) : GoodIn wAll (wsV own idx C y (c2 :: wAll)) := fun w q => by
  rcases List.mem_append.mp q with q | q
  · simp only [List.mem_cons, List.not_mem_nil, or_false] at q
    rcases q with rfl | rfl | rfl | rfl
    · exact ⟨h1, gdA h1⟩
    · exact ⟨h2, gdA h2⟩
    · exact ⟨h3, gdA h3⟩
    · exact ⟨h4, gdA h4⟩
  · exact gNa h w q
theorem wm_8_21 : Cond.methodLink RL 13 yX9_lane ∈ wAll := inr_8 (List.mem_of_getElem? (i := 21) rfl)
theorem wm_8_22 : Cond.instanceMethod yX9_lane ∈ wAll := inr_8 (List.mem_of_getElem? (i := 22) rfl)
theorem wm_8_23 : Cond.selects RX9 yX9_lane yX9_lane ∈ wAll := inr_8 (List.mem_of_getElem? (i := 23) rfl)
theorem wm_9_0 : Cond.code yX9_lane cX9_lane 5 (some .int) ∈ wAll := inr_9 (List.mem_of_getElem? (i := 0) rfl)
theorem hqV_X9_lane : yX9_lane.cls = RX9 ∧ yX9_lane.cls ≠ "java/lang/invoke/MethodHandle" ∧ yX9_lane.cls ≠ "java/lang/invoke/VarHandle" ∧ (parseMethodDescriptor yX9_lane.desc).map (fun d => d.parameters.length) = some 3 := by decide +kernel
theorem wm_10_4 : Cond.methodLink RL 17 yX10_lane ∈ wAll := inr_10 (List.mem_of_getElem? (i := 4) rfl)
theorem wm_10_5 : Cond.instanceMethod yX10_lane ∈ wAll := inr_10 (List.mem_of_getElem? (i := 5) rfl)
theorem wm_10_6 : Cond.selects RX10 yX10_lane yX10_lane ∈ wAll := inr_10 (List.mem_of_getElem? (i := 6) rfl)
theorem wm_10_7 : Cond.code yX10_lane cX10_lane 4 (some .int) ∈ wAll := inr_10 (List.mem_of_getElem? (i := 7) rfl)
theorem hqV_X10_lane : yX10_lane.cls = RX10 ∧ yX10_lane.cls ≠ "java/lang/invoke/MethodHandle" ∧ yX10_lane.cls ≠ "java/lang/invoke/VarHandle" ∧ (parseMethodDescriptor yX10_lane.desc).map (fun d => d.parameters.length) = some 3 := by decide +kernel
set_option maxHeartbeats 4000000 in
set_option maxRecDepth 100000 in
theorem law_lane {κ : Cx} {g : Gx} (hκ : CF κ g RL cL_law wAll 4 room_1) {b L : Nat} {xs : Nat → Int32} (hsc : SC κ b L xs) {Inv : ST → ST → Prop} {X M : ST} {l3 : Int32} (hv1 : vp_in (l3 + 1) L) (hv2 : vp_in (l3 + 2) L) (hv3 : vp_in (l3 + 3) L) (hv4 : vp_in (l3 + 4) L) (h : wp_LR_lane X (xs (l3 + 1).toNatClampNeg) (xs (l3 + 2).toNatClampNeg) (xs (l3 + 3).toNatClampNeg) (fun r X1 => wp_m_lane M (xs (l3 + 1).toNatClampNeg) (xs (l3 + 2).toNatClampNeg) (xs (l3 + 3).toNatClampNeg) (fun q M1 => r = q ∧ Inv X1 M1))) (hrec : ∀ X M, Inv X M → Jw κ g 4 X M [(0, .ref b), (1, .ref (g.2.1 0)), (2, .ref (g.2.1 11)), (3, .int l3)] 1293 []) : Jw κ g 4 X M [(0, .ref b), (1, .ref (g.2.1 0)), (2, .ref (g.2.1 11)), (3, .int l3)] 188 [] := by
  refine j_aload_n (pc' := 189) hκ 1 rfl rfl dL_law_188 rfl ?_
  refine j_aload_n (pc' := 190) hκ 0 rfl rfl dL_law_189 rfl ?_
  refine j_iload_n (pc' := 191) hκ 3 rfl rfl dL_law_190 rfl ?_
  refine j_iconst (pc' := 192) (v := 1) hκ (by decide) dL_law_191 rfl ?_
  refine j_iadd (pc' := 193) hκ dL_law_192 rfl ?_
  refine j_sld (pc' := 194) hκ hsc hv1 dL_law_193 rfl ?_
  refine j_aload_n (pc' := 195) hκ 0 rfl rfl dL_law_194 rfl ?_
  refine j_iload_n (pc' := 196) hκ 3 rfl rfl dL_law_195 rfl ?_
  refine j_iconst (pc' := 197) (v := 2) hκ (by decide) dL_law_196 rfl ?_
  refine j_iadd (pc' := 198) hκ dL_law_197 rfl ?_
  refine j_sld (pc' := 199) hκ hsc hv2 dL_law_198 rfl ?_
  refine j_aload_n (pc' := 200) hκ 0 rfl rfl dL_law_199 rfl ?_
  refine j_iload_n (pc' := 201) hκ 3 rfl rfl dL_law_200 rfl ?_
  refine j_iconst (pc' := 202) (v := 3) hκ (by decide) dL_law_201 rfl ?_
  refine j_iadd (pc' := 203) hκ dL_law_202 rfl ?_
  refine j_sld (pc' := 204) hκ hsc hv3 dL_law_203 rfl ?_
  refine jx_callVi (pc' := 207) hκ (c_LR_lane (dg hκ) h) rfl rfl rfl (gVa wm_8_21 wm_8_22 wm_8_23 wm_1_2 wm_9_0) hqV_X9_lane ⟨Nat.le_of_ble_eq_true rfl, Nat.le_of_ble_eq_true rfl⟩ (wg_0 g _ _) rfl rfl rfl (Nat.le_of_ble_eq_true rfl) dL_law_204 rfl (fun r1 X1 h => ?_)
  refine j_aload_n (pc' := 208) hκ 2 rfl rfl dL_law_207 rfl ?_
  refine j_aload_n (pc' := 209) hκ 0 rfl rfl dL_law_208 rfl ?_
  refine j_iload_n (pc' := 210) hκ 3 rfl rfl dL_law_209 rfl ?_
  refine j_iconst (pc' := 211) (v := 1) hκ (by decide) dL_law_210 rfl ?_
  refine j_iadd (pc' := 212) hκ dL_law_211 rfl ?_
  refine j_sld (pc' := 213) hκ hsc hv1 dL_law_212 rfl ?_
  refine j_aload_n (pc' := 214) hκ 0 rfl rfl dL_law_213 rfl ?_
  refine j_iload_n (pc' := 215) hκ 3 rfl rfl dL_law_214 rfl ?_
  refine j_iconst (pc' := 216) (v := 2) hκ (by decide) dL_law_215 rfl ?_
  refine j_iadd (pc' := 217) hκ dL_law_216 rfl ?_
  refine j_sld (pc' := 218) hκ hsc hv2 dL_law_217 rfl ?_
  refine j_aload_n (pc' := 219) hκ 0 rfl rfl dL_law_218 rfl ?_
  refine j_iload_n (pc' := 220) hκ 3 rfl rfl dL_law_219 rfl ?_
  refine j_iconst (pc' := 221) (v := 3) hκ (by decide) dL_law_220 rfl ?_
  refine j_iadd (pc' := 222) hκ dL_law_221 rfl ?_
  refine j_sld (pc' := 223) hκ hsc hv3 dL_law_222 rfl ?_
  refine jm_callVi (pc' := 226) hκ (c_m_lane (dg hκ) h) rfl rfl rfl (gVa wm_10_4 wm_10_5 wm_10_6 wm_1_5 wm_10_7) hqV_X10_lane ⟨Nat.le_of_ble_eq_true rfl, Nat.le_of_ble_eq_true rfl⟩ (wg_11 g _ _) rfl rfl rfl (Nat.le_of_ble_eq_true rfl) dL_law_223 rfl (fun r2 M1 h => ?_)
  refine j_icmp_eq (tgt := 1293) (pc' := 229) hκ dL_law_226 (by decide) rfl (fun _ => ?_) (fun c9 => absurd h.1 c9)
  exact hrec _ _ h.2
theorem wm_10_12 : Cond.methodLink RL 18 yX9_open ∈ wAll := inr_10 (List.mem_of_getElem? (i := 12) rfl)
theorem wm_10_13 : Cond.instanceMethod yX9_open ∈ wAll := inr_10 (List.mem_of_getElem? (i := 13) rfl)
theorem wm_10_14 : Cond.selects RX9 yX9_open yX9_open ∈ wAll := inr_10 (List.mem_of_getElem? (i := 14) rfl)
theorem wm_10_15 : Cond.code yX9_open cX9_open 3 (some .int) ∈ wAll := inr_10 (List.mem_of_getElem? (i := 15) rfl)
theorem hqV_X9_open : yX9_open.cls = RX9 ∧ yX9_open.cls ≠ "java/lang/invoke/MethodHandle" ∧ yX9_open.cls ≠ "java/lang/invoke/VarHandle" ∧ (parseMethodDescriptor yX9_open.desc).map (fun d => d.parameters.length) = some 2 := by decide +kernel
theorem wm_10_20 : Cond.methodLink RL 22 yX10_open ∈ wAll := inr_10 (List.mem_of_getElem? (i := 20) rfl)
theorem wm_10_21 : Cond.instanceMethod yX10_open ∈ wAll := inr_10 (List.mem_of_getElem? (i := 21) rfl)
theorem wm_10_22 : Cond.selects RX10 yX10_open yX10_open ∈ wAll := inr_10 (List.mem_of_getElem? (i := 22) rfl)
theorem wm_10_23 : Cond.code yX10_open cX10_open 3 (some .int) ∈ wAll := inr_10 (List.mem_of_getElem? (i := 23) rfl)
theorem hqV_X10_open : yX10_open.cls = RX10 ∧ yX10_open.cls ≠ "java/lang/invoke/MethodHandle" ∧ yX10_open.cls ≠ "java/lang/invoke/VarHandle" ∧ (parseMethodDescriptor yX10_open.desc).map (fun d => d.parameters.length) = some 2 := by decide +kernel
set_option maxHeartbeats 4000000 in
set_option maxRecDepth 100000 in
theorem law_open {κ : Cx} {g : Gx} (hκ : CF κ g RL cL_law wAll 4 room_1) {b L : Nat} {xs : Nat → Int32} (hsc : SC κ b L xs) {Inv : ST → ST → Prop} {X M : ST} {l3 : Int32} (hv1 : vp_in (l3 + 1) L) (hv2 : vp_in (l3 + 2) L) (hv3 : vp_in (l3 + 3) L) (hv4 : vp_in (l3 + 4) L) (h : ∀ z : Int32, bz z → wp_LR_open X (xs (l3 + 1).toNatClampNeg) z (fun r X1 => wp_m_open M (xs (l3 + 1).toNatClampNeg) z (fun q M1 => r = q ∧ Inv X1 M1))) (hrec : ∀ X M, Inv X M → Jw κ g 4 X M [(0, .ref b), (1, .ref (g.2.1 0)), (2, .ref (g.2.1 11)), (3, .int l3)] 1293 []) : Jw κ g 4 X M [(0, .ref b), (1, .ref (g.2.1 0)), (2, .ref (g.2.1 11)), (3, .int l3)] 231 [] := by
  refine j_aload_n (pc' := 232) hκ 1 rfl rfl dL_law_231 rfl ?_
  refine j_aload_n (pc' := 233) hκ 0 rfl rfl dL_law_232 rfl ?_
  refine j_iload_n (pc' := 234) hκ 3 rfl rfl dL_law_233 rfl ?_
  refine j_iconst (pc' := 235) (v := 1) hκ (by decide) dL_law_234 rfl ?_
  refine j_iadd (pc' := 236) hκ dL_law_235 rfl ?_
  refine j_sld (pc' := 237) hκ hsc hv1 dL_law_236 rfl ?_
  refine j_aload_n (pc' := 238) hκ 0 rfl rfl dL_law_237 rfl ?_
  refine j_iload_n (pc' := 239) hκ 3 rfl rfl dL_law_238 rfl ?_
  refine j_iconst (pc' := 240) (v := 2) hκ (by decide) dL_law_239 rfl ?_
  refine j_iadd (pc' := 241) hκ dL_law_240 rfl ?_
  refine j_sld (pc' := 242) hκ hsc hv2 dL_law_241 rfl ?_
  refine j_if_eq (tgt := 249) (pc' := 245) hκ dL_law_242 (by decide) rfl (fun c242 => ?_) (fun c242 => ?_)
  · replace h := h 0 (Or.inl rfl)
    refine j_iconst (pc' := 250) (v := 0) hκ (by decide) dL_law_249 rfl ?_
    refine jx_callVi (pc' := 253) hκ (c_LR_open (dg hκ) h) rfl rfl rfl (gVa wm_10_12 wm_10_13 wm_10_14 wm_1_2 wm_10_15) hqV_X9_open ⟨Nat.le_of_ble_eq_true rfl, Nat.le_of_ble_eq_true rfl⟩ (wg_0 g _ _) rfl rfl rfl (Nat.le_of_ble_eq_true rfl) dL_law_250 rfl (fun r1 X1 h => ?_)
    refine j_aload_n (pc' := 254) hκ 2 rfl rfl dL_law_253 rfl ?_
    refine j_aload_n (pc' := 255) hκ 0 rfl rfl dL_law_254 rfl ?_
    refine j_iload_n (pc' := 256) hκ 3 rfl rfl dL_law_255 rfl ?_
    refine j_iconst (pc' := 257) (v := 1) hκ (by decide) dL_law_256 rfl ?_
    refine j_iadd (pc' := 258) hκ dL_law_257 rfl ?_
    refine j_sld (pc' := 259) hκ hsc hv1 dL_law_258 rfl ?_
    refine j_aload_n (pc' := 260) hκ 0 rfl rfl dL_law_259 rfl ?_
    refine j_iload_n (pc' := 261) hκ 3 rfl rfl dL_law_260 rfl ?_
    refine j_iconst (pc' := 262) (v := 2) hκ (by decide) dL_law_261 rfl ?_
    refine j_iadd (pc' := 263) hκ dL_law_262 rfl ?_
    refine j_sld (pc' := 264) hκ hsc hv2 dL_law_263 rfl ?_
    refine j_if_eq (tgt := 271) (pc' := 267) hκ dL_law_264 (by decide) rfl (fun _ => ?_) (fun c9 => absurd c242 c9)
    refine j_iconst (pc' := 272) (v := 0) hκ (by decide) dL_law_271 rfl ?_
    refine jm_callVi (pc' := 275) hκ (c_m_open (dg hκ) h) rfl rfl rfl (gVa wm_10_20 wm_10_21 wm_10_22 wm_1_5 wm_10_23) hqV_X10_open ⟨Nat.le_of_ble_eq_true rfl, Nat.le_of_ble_eq_true rfl⟩ (wg_11 g _ _) rfl rfl rfl (Nat.le_of_ble_eq_true rfl) dL_law_272 rfl (fun r2 M1 h => ?_)
    refine j_icmp_eq (tgt := 1293) (pc' := 278) hκ dL_law_275 (by decide) rfl (fun _ => ?_) (fun c9 => absurd h.1 c9)
    exact hrec _ _ h.2
  · replace h := h 1 (Or.inr rfl)
    refine j_iconst (pc' := 246) (v := 1) hκ (by decide) dL_law_245 rfl ?_
    refine j_goto (pc' := 250) hκ (by decide) dL_law_246 ?_
    refine jx_callVi (pc' := 253) hκ (c_LR_open (dg hκ) h) rfl rfl rfl (gVa wm_10_12 wm_10_13 wm_10_14 wm_1_2 wm_10_15) hqV_X9_open ⟨Nat.le_of_ble_eq_true rfl, Nat.le_of_ble_eq_true rfl⟩ (wg_0 g _ _) rfl rfl rfl (Nat.le_of_ble_eq_true rfl) dL_law_250 rfl (fun r1 X1 h => ?_)
    refine j_aload_n (pc' := 254) hκ 2 rfl rfl dL_law_253 rfl ?_
    refine j_aload_n (pc' := 255) hκ 0 rfl rfl dL_law_254 rfl ?_
    refine j_iload_n (pc' := 256) hκ 3 rfl rfl dL_law_255 rfl ?_
    refine j_iconst (pc' := 257) (v := 1) hκ (by decide) dL_law_256 rfl ?_
    refine j_iadd (pc' := 258) hκ dL_law_257 rfl ?_
    refine j_sld (pc' := 259) hκ hsc hv1 dL_law_258 rfl ?_
    refine j_aload_n (pc' := 260) hκ 0 rfl rfl dL_law_259 rfl ?_
    refine j_iload_n (pc' := 261) hκ 3 rfl rfl dL_law_260 rfl ?_
    refine j_iconst (pc' := 262) (v := 2) hκ (by decide) dL_law_261 rfl ?_
    refine j_iadd (pc' := 263) hκ dL_law_262 rfl ?_
    refine j_sld (pc' := 264) hκ hsc hv2 dL_law_263 rfl ?_
    refine j_if_eq (tgt := 271) (pc' := 267) hκ dL_law_264 (by decide) rfl (fun c9 => absurd c9 c242) (fun _ => ?_)
    refine j_iconst (pc' := 268) (v := 1) hκ (by decide) dL_law_267 rfl ?_
    refine j_goto (pc' := 272) hκ (by decide) dL_law_268 ?_
    refine jm_callVi (pc' := 275) hκ (c_m_open (dg hκ) h) rfl rfl rfl (gVa wm_10_20 wm_10_21 wm_10_22 wm_1_5 wm_10_23) hqV_X10_open ⟨Nat.le_of_ble_eq_true rfl, Nat.le_of_ble_eq_true rfl⟩ (wg_11 g _ _) rfl rfl rfl (Nat.le_of_ble_eq_true rfl) dL_law_272 rfl (fun r2 M1 h => ?_)
    refine j_icmp_eq (tgt := 1293) (pc' := 278) hκ dL_law_275 (by decide) rfl (fun _ => ?_) (fun c9 => absurd h.1 c9)
    exact hrec _ _ h.2
theorem wm_11_4 : Cond.methodLink RL 23 yX9_about ∈ wAll := inr_11 (List.mem_of_getElem? (i := 4) rfl)
theorem wm_11_5 : Cond.instanceMethod yX9_about ∈ wAll := inr_11 (List.mem_of_getElem? (i := 5) rfl)
theorem wm_11_6 : Cond.selects RX9 yX9_about yX9_about ∈ wAll := inr_11 (List.mem_of_getElem? (i := 6) rfl)
theorem wm_11_7 : Cond.code yX9_about cX9_about 3 (some .int) ∈ wAll := inr_11 (List.mem_of_getElem? (i := 7) rfl)
theorem hqV_X9_about : yX9_about.cls = RX9 ∧ yX9_about.cls ≠ "java/lang/invoke/MethodHandle" ∧ yX9_about.cls ≠ "java/lang/invoke/VarHandle" ∧ (parseMethodDescriptor yX9_about.desc).map (fun d => d.parameters.length) = some 2 := by decide +kernel
theorem wm_11_8 : Cond.methodLink RL 27 yX10_about ∈ wAll := inr_11 (List.mem_of_getElem? (i := 8) rfl)
theorem wm_11_9 : Cond.instanceMethod yX10_about ∈ wAll := inr_11 (List.mem_of_getElem? (i := 9) rfl)
theorem wm_11_10 : Cond.selects RX10 yX10_about yX10_about ∈ wAll := inr_11 (List.mem_of_getElem? (i := 10) rfl)
theorem wm_11_11 : Cond.code yX10_about cX10_about 3 (some .int) ∈ wAll := inr_11 (List.mem_of_getElem? (i := 11) rfl)
theorem hqV_X10_about : yX10_about.cls = RX10 ∧ yX10_about.cls ≠ "java/lang/invoke/MethodHandle" ∧ yX10_about.cls ≠ "java/lang/invoke/VarHandle" ∧ (parseMethodDescriptor yX10_about.desc).map (fun d => d.parameters.length) = some 2 := by decide +kernel
set_option maxHeartbeats 4000000 in
set_option maxRecDepth 100000 in
theorem law_about {κ : Cx} {g : Gx} (hκ : CF κ g RL cL_law wAll 4 room_1) {b L : Nat} {xs : Nat → Int32} (hsc : SC κ b L xs) {Inv : ST → ST → Prop} {X M : ST} {l3 : Int32} (hv1 : vp_in (l3 + 1) L) (hv2 : vp_in (l3 + 2) L) (hv3 : vp_in (l3 + 3) L) (hv4 : vp_in (l3 + 4) L) (h : wp_LR_about X (xs (l3 + 1).toNatClampNeg) (xs (l3 + 2).toNatClampNeg) (fun r X1 => wp_m_about M (xs (l3 + 1).toNatClampNeg) (xs (l3 + 2).toNatClampNeg) (fun q M1 => r = q ∧ Inv X1 M1))) (hrec : ∀ X M, Inv X M → Jw κ g 4 X M [(0, .ref b), (1, .ref (g.2.1 0)), (2, .ref (g.2.1 11)), (3, .int l3)] 1293 []) : Jw κ g 4 X M [(0, .ref b), (1, .ref (g.2.1 0)), (2, .ref (g.2.1 11)), (3, .int l3)] 280 [] := by
  refine j_aload_n (pc' := 281) hκ 1 rfl rfl dL_law_280 rfl ?_
  refine j_aload_n (pc' := 282) hκ 0 rfl rfl dL_law_281 rfl ?_
  refine j_iload_n (pc' := 283) hκ 3 rfl rfl dL_law_282 rfl ?_
  refine j_iconst (pc' := 284) (v := 1) hκ (by decide) dL_law_283 rfl ?_
  refine j_iadd (pc' := 285) hκ dL_law_284 rfl ?_
  refine j_sld (pc' := 286) hκ hsc hv1 dL_law_285 rfl ?_
  refine j_aload_n (pc' := 287) hκ 0 rfl rfl dL_law_286 rfl ?_
  refine j_iload_n (pc' := 288) hκ 3 rfl rfl dL_law_287 rfl ?_
  refine j_iconst (pc' := 289) (v := 2) hκ (by decide) dL_law_288 rfl ?_
  refine j_iadd (pc' := 290) hκ dL_law_289 rfl ?_
  refine j_sld (pc' := 291) hκ hsc hv2 dL_law_290 rfl ?_
  refine jx_callVi (pc' := 294) hκ (c_LR_about (dg hκ) h) rfl rfl rfl (gVa wm_11_4 wm_11_5 wm_11_6 wm_1_2 wm_11_7) hqV_X9_about ⟨Nat.le_of_ble_eq_true rfl, Nat.le_of_ble_eq_true rfl⟩ (wg_0 g _ _) rfl rfl rfl (Nat.le_of_ble_eq_true rfl) dL_law_291 rfl (fun r1 X1 h => ?_)
  refine j_aload_n (pc' := 295) hκ 2 rfl rfl dL_law_294 rfl ?_
  refine j_aload_n (pc' := 296) hκ 0 rfl rfl dL_law_295 rfl ?_
  refine j_iload_n (pc' := 297) hκ 3 rfl rfl dL_law_296 rfl ?_
  refine j_iconst (pc' := 298) (v := 1) hκ (by decide) dL_law_297 rfl ?_
  refine j_iadd (pc' := 299) hκ dL_law_298 rfl ?_
  refine j_sld (pc' := 300) hκ hsc hv1 dL_law_299 rfl ?_
  refine j_aload_n (pc' := 301) hκ 0 rfl rfl dL_law_300 rfl ?_
  refine j_iload_n (pc' := 302) hκ 3 rfl rfl dL_law_301 rfl ?_
  refine j_iconst (pc' := 303) (v := 2) hκ (by decide) dL_law_302 rfl ?_
  refine j_iadd (pc' := 304) hκ dL_law_303 rfl ?_
  refine j_sld (pc' := 305) hκ hsc hv2 dL_law_304 rfl ?_
  refine jm_callVi (pc' := 308) hκ (c_m_about (dg hκ) h) rfl rfl rfl (gVa wm_11_8 wm_11_9 wm_11_10 wm_1_5 wm_11_11) hqV_X10_about ⟨Nat.le_of_ble_eq_true rfl, Nat.le_of_ble_eq_true rfl⟩ (wg_11 g _ _) rfl rfl rfl (Nat.le_of_ble_eq_true rfl) dL_law_305 rfl (fun r2 M1 h => ?_)
  refine j_icmp_eq (tgt := 1293) (pc' := 311) hκ dL_law_308 (by decide) rfl (fun _ => ?_) (fun c9 => absurd h.1 c9)
  exact hrec _ _ h.2
theorem wm_11_12 : Cond.methodLink RL 28 yX9_row ∈ wAll := inr_11 (List.mem_of_getElem? (i := 12) rfl)
theorem wm_11_13 : Cond.instanceMethod yX9_row ∈ wAll := inr_11 (List.mem_of_getElem? (i := 13) rfl)
theorem wm_11_14 : Cond.selects RX9 yX9_row yX9_row ∈ wAll := inr_11 (List.mem_of_getElem? (i := 14) rfl)
theorem wm_11_15 : Cond.code yX9_row cX9_row 4 (some .int) ∈ wAll := inr_11 (List.mem_of_getElem? (i := 15) rfl)
theorem hqV_X9_row : yX9_row.cls = RX9 ∧ yX9_row.cls ≠ "java/lang/invoke/MethodHandle" ∧ yX9_row.cls ≠ "java/lang/invoke/VarHandle" ∧ (parseMethodDescriptor yX9_row.desc).map (fun d => d.parameters.length) = some 3 := by decide +kernel
theorem wm_12_3 : Cond.methodLink RL 31 yX10_row ∈ wAll := inr_12 (List.mem_of_getElem? (i := 3) rfl)
theorem wm_12_4 : Cond.instanceMethod yX10_row ∈ wAll := inr_12 (List.mem_of_getElem? (i := 4) rfl)
theorem wm_12_5 : Cond.selects RX10 yX10_row yX10_row ∈ wAll := inr_12 (List.mem_of_getElem? (i := 5) rfl)
theorem wm_12_6 : Cond.code yX10_row cX10_row 5 (some .int) ∈ wAll := inr_12 (List.mem_of_getElem? (i := 6) rfl)
theorem hqV_X10_row : yX10_row.cls = RX10 ∧ yX10_row.cls ≠ "java/lang/invoke/MethodHandle" ∧ yX10_row.cls ≠ "java/lang/invoke/VarHandle" ∧ (parseMethodDescriptor yX10_row.desc).map (fun d => d.parameters.length) = some 3 := by decide +kernel
set_option maxHeartbeats 4000000 in
set_option maxRecDepth 100000 in
theorem law_row {κ : Cx} {g : Gx} (hκ : CF κ g RL cL_law wAll 4 room_1) {b L : Nat} {xs : Nat → Int32} (hsc : SC κ b L xs) {Inv : ST → ST → Prop} {X M : ST} {l3 : Int32} (hv1 : vp_in (l3 + 1) L) (hv2 : vp_in (l3 + 2) L) (hv3 : vp_in (l3 + 3) L) (hv4 : vp_in (l3 + 4) L) (h : wp_LR_row X (xs (l3 + 1).toNatClampNeg) (xs (l3 + 2).toNatClampNeg) (xs (l3 + 3).toNatClampNeg) (fun r X1 => wp_m_row M (xs (l3 + 1).toNatClampNeg) (xs (l3 + 2).toNatClampNeg) (xs (l3 + 3).toNatClampNeg) (fun q M1 => r = q ∧ Inv X1 M1))) (hrec : ∀ X M, Inv X M → Jw κ g 4 X M [(0, .ref b), (1, .ref (g.2.1 0)), (2, .ref (g.2.1 11)), (3, .int l3)] 1293 []) : Jw κ g 4 X M [(0, .ref b), (1, .ref (g.2.1 0)), (2, .ref (g.2.1 11)), (3, .int l3)] 313 [] := by
  refine j_aload_n (pc' := 314) hκ 1 rfl rfl dL_law_313 rfl ?_
  refine j_aload_n (pc' := 315) hκ 0 rfl rfl dL_law_314 rfl ?_
  refine j_iload_n (pc' := 316) hκ 3 rfl rfl dL_law_315 rfl ?_
  refine j_iconst (pc' := 317) (v := 1) hκ (by decide) dL_law_316 rfl ?_
  refine j_iadd (pc' := 318) hκ dL_law_317 rfl ?_
  refine j_sld (pc' := 319) hκ hsc hv1 dL_law_318 rfl ?_
  refine j_aload_n (pc' := 320) hκ 0 rfl rfl dL_law_319 rfl ?_
  refine j_iload_n (pc' := 321) hκ 3 rfl rfl dL_law_320 rfl ?_
  refine j_iconst (pc' := 322) (v := 2) hκ (by decide) dL_law_321 rfl ?_
  refine j_iadd (pc' := 323) hκ dL_law_322 rfl ?_
  refine j_sld (pc' := 324) hκ hsc hv2 dL_law_323 rfl ?_
  refine j_aload_n (pc' := 325) hκ 0 rfl rfl dL_law_324 rfl ?_
  refine j_iload_n (pc' := 326) hκ 3 rfl rfl dL_law_325 rfl ?_
  refine j_iconst (pc' := 327) (v := 3) hκ (by decide) dL_law_326 rfl ?_
  refine j_iadd (pc' := 328) hκ dL_law_327 rfl ?_
  refine j_sld (pc' := 329) hκ hsc hv3 dL_law_328 rfl ?_
  refine jx_callVi (pc' := 332) hκ (c_LR_row (dg hκ) h) rfl rfl rfl (gVa wm_11_12 wm_11_13 wm_11_14 wm_1_2 wm_11_15) hqV_X9_row ⟨Nat.le_of_ble_eq_true rfl, Nat.le_of_ble_eq_true rfl⟩ (wg_0 g _ _) rfl rfl rfl (Nat.le_of_ble_eq_true rfl) dL_law_329 rfl (fun r1 X1 h => ?_)
  refine j_aload_n (pc' := 333) hκ 2 rfl rfl dL_law_332 rfl ?_
  refine j_aload_n (pc' := 334) hκ 0 rfl rfl dL_law_333 rfl ?_
  refine j_iload_n (pc' := 335) hκ 3 rfl rfl dL_law_334 rfl ?_
  refine j_iconst (pc' := 336) (v := 1) hκ (by decide) dL_law_335 rfl ?_
  refine j_iadd (pc' := 337) hκ dL_law_336 rfl ?_
  refine j_sld (pc' := 338) hκ hsc hv1 dL_law_337 rfl ?_
  refine j_aload_n (pc' := 339) hκ 0 rfl rfl dL_law_338 rfl ?_
  refine j_iload_n (pc' := 340) hκ 3 rfl rfl dL_law_339 rfl ?_
  refine j_iconst (pc' := 341) (v := 2) hκ (by decide) dL_law_340 rfl ?_
  refine j_iadd (pc' := 342) hκ dL_law_341 rfl ?_
  refine j_sld (pc' := 343) hκ hsc hv2 dL_law_342 rfl ?_
  refine j_aload_n (pc' := 344) hκ 0 rfl rfl dL_law_343 rfl ?_
  refine j_iload_n (pc' := 345) hκ 3 rfl rfl dL_law_344 rfl ?_
  refine j_iconst (pc' := 346) (v := 3) hκ (by decide) dL_law_345 rfl ?_
  refine j_iadd (pc' := 347) hκ dL_law_346 rfl ?_
  refine j_sld (pc' := 348) hκ hsc hv3 dL_law_347 rfl ?_
  refine jm_callVi (pc' := 351) hκ (c_m_row (dg hκ) h) rfl rfl rfl (gVa wm_12_3 wm_12_4 wm_12_5 wm_1_5 wm_12_6) hqV_X10_row ⟨Nat.le_of_ble_eq_true rfl, Nat.le_of_ble_eq_true rfl⟩ (wg_11 g _ _) rfl rfl rfl (Nat.le_of_ble_eq_true rfl) dL_law_348 rfl (fun r2 M1 h => ?_)
  refine j_icmp_eq (tgt := 1293) (pc' := 354) hκ dL_law_351 (by decide) rfl (fun _ => ?_) (fun c9 => absurd h.1 c9)
  exact hrec _ _ h.2
theorem wm_1_6 : Cond.constantLong RL 32 (4294967295) ∈ wAll := inr_1 (List.mem_of_getElem? (i := 6) rfl)
theorem wm_12_10 : Cond.methodLink RL 34 yX9_cell ∈ wAll := inr_12 (List.mem_of_getElem? (i := 10) rfl)
theorem wm_12_11 : Cond.instanceMethod yX9_cell ∈ wAll := inr_12 (List.mem_of_getElem? (i := 11) rfl)
theorem wm_12_12 : Cond.selects RX9 yX9_cell yX9_cell ∈ wAll := inr_12 (List.mem_of_getElem? (i := 12) rfl)
theorem wm_12_13 : Cond.code yX9_cell cX9_cell 5 (some .int) ∈ wAll := inr_12 (List.mem_of_getElem? (i := 13) rfl)
theorem hqV_X9_cell : yX9_cell.cls = RX9 ∧ yX9_cell.cls ≠ "java/lang/invoke/MethodHandle" ∧ yX9_cell.cls ≠ "java/lang/invoke/VarHandle" ∧ (parseMethodDescriptor yX9_cell.desc).map (fun d => d.parameters.length) = some 3 := by decide +kernel
theorem wm_13_2 : Cond.methodLink RL 38 yX10_cell ∈ wAll := inr_13 (List.mem_of_getElem? (i := 2) rfl)
theorem wm_13_3 : Cond.instanceMethod yX10_cell ∈ wAll := inr_13 (List.mem_of_getElem? (i := 3) rfl)
theorem wm_13_4 : Cond.selects RX10 yX10_cell yX10_cell ∈ wAll := inr_13 (List.mem_of_getElem? (i := 4) rfl)
theorem wm_13_5 : Cond.code yX10_cell cX10_cell 5 (some .int) ∈ wAll := inr_13 (List.mem_of_getElem? (i := 5) rfl)
theorem hqV_X10_cell : yX10_cell.cls = RX10 ∧ yX10_cell.cls ≠ "java/lang/invoke/MethodHandle" ∧ yX10_cell.cls ≠ "java/lang/invoke/VarHandle" ∧ (parseMethodDescriptor yX10_cell.desc).map (fun d => d.parameters.length) = some 3 := by decide +kernel
set_option maxHeartbeats 4000000 in
set_option maxRecDepth 100000 in
theorem law_cell {κ : Cx} {g : Gx} (hκ : CF κ g RL cL_law wAll 4 room_1) {b L : Nat} {xs : Nat → Int32} (hsc : SC κ b L xs) {Inv : ST → ST → Prop} {X M : ST} {l3 : Int32} (hv1 : vp_in (l3 + 1) L) (hv2 : vp_in (l3 + 2) L) (hv3 : vp_in (l3 + 3) L) (hv4 : vp_in (l3 + 4) L) (h : wp_LR_cell X (xs (l3 + 1).toNatClampNeg) (xs (l3 + 2).toNatClampNeg) (((xs (l3 + 3).toNatClampNeg).toInt64 <<< ((32 : Int32).toInt64 &&& 63)) ||| ((xs (l3 + 4).toNatClampNeg).toInt64 &&& 4294967295)) (fun r X1 => wp_m_cell M (xs (l3 + 1).toNatClampNeg) (xs (l3 + 2).toNatClampNeg) (((xs (l3 + 3).toNatClampNeg).toInt64 <<< ((32 : Int32).toInt64 &&& 63)) ||| ((xs (l3 + 4).toNatClampNeg).toInt64 &&& 4294967295)) (fun q M1 => r = q ∧ Inv X1 M1))) (hrec : ∀ X M, Inv X M → Jw κ g 4 X M [(0, .ref b), (1, .ref (g.2.1 0)), (2, .ref (g.2.1 11)), (3, .int l3)] 1293 []) : Jw κ g 4 X M [(0, .ref b), (1, .ref (g.2.1 0)), (2, .ref (g.2.1 11)), (3, .int l3)] 356 [] := by
  refine j_aload_n (pc' := 357) hκ 1 rfl rfl dL_law_356 rfl ?_
  refine j_aload_n (pc' := 358) hκ 0 rfl rfl dL_law_357 rfl ?_
  refine j_iload_n (pc' := 359) hκ 3 rfl rfl dL_law_358 rfl ?_
  refine j_iconst (pc' := 360) (v := 1) hκ (by decide) dL_law_359 rfl ?_
  refine j_iadd (pc' := 361) hκ dL_law_360 rfl ?_
  refine j_sld (pc' := 362) hκ hsc hv1 dL_law_361 rfl ?_
  refine j_aload_n (pc' := 363) hκ 0 rfl rfl dL_law_362 rfl ?_
  refine j_iload_n (pc' := 364) hκ 3 rfl rfl dL_law_363 rfl ?_
  refine j_iconst (pc' := 365) (v := 2) hκ (by decide) dL_law_364 rfl ?_
  refine j_iadd (pc' := 366) hκ dL_law_365 rfl ?_
  refine j_sld (pc' := 367) hκ hsc hv2 dL_law_366 rfl ?_
  refine j_aload_n (pc' := 368) hκ 0 rfl rfl dL_law_367 rfl ?_
  refine j_iload_n (pc' := 369) hκ 3 rfl rfl dL_law_368 rfl ?_
  refine j_iconst (pc' := 370) (v := 3) hκ (by decide) dL_law_369 rfl ?_
  refine j_iadd (pc' := 371) hκ dL_law_370 rfl ?_
  refine j_sld (pc' := 372) hκ hsc hv3 dL_law_371 rfl ?_
  refine j_i2l (pc' := 373) hκ dL_law_372 rfl ?_
  refine j_bipush (pc' := 375) (v := 32) hκ (by decide) dL_law_373 rfl ?_
  refine j_lshl (pc' := 376) hκ dL_law_375 rfl ?_
  refine j_aload_n (pc' := 377) hκ 0 rfl rfl dL_law_376 rfl ?_
  refine j_iload_n (pc' := 378) hκ 3 rfl rfl dL_law_377 rfl ?_
  refine j_iconst (pc' := 379) (v := 4) hκ (by decide) dL_law_378 rfl ?_
  refine j_iadd (pc' := 380) hκ dL_law_379 rfl ?_
  refine j_sld (pc' := 381) hκ hsc hv4 dL_law_380 rfl ?_
  refine j_i2l (pc' := 382) hκ dL_law_381 rfl ?_
  refine j_ldc2_w (pc' := 385) hκ wm_1_6 dL_law_382 rfl ?_
  refine j_land (pc' := 386) hκ dL_law_385 rfl ?_
  refine j_lor (pc' := 387) hκ dL_law_386 rfl ?_
  refine jx_callVi (pc' := 390) hκ (c_LR_cell (dg hκ) h) rfl rfl rfl (gVa wm_12_10 wm_12_11 wm_12_12 wm_1_2 wm_12_13) hqV_X9_cell ⟨Nat.le_of_ble_eq_true rfl, Nat.le_of_ble_eq_true rfl⟩ (wg_0 g _ _) rfl rfl rfl (Nat.le_of_ble_eq_true rfl) dL_law_387 rfl (fun r1 X1 h => ?_)
  refine j_aload_n (pc' := 391) hκ 2 rfl rfl dL_law_390 rfl ?_
  refine j_aload_n (pc' := 392) hκ 0 rfl rfl dL_law_391 rfl ?_
  refine j_iload_n (pc' := 393) hκ 3 rfl rfl dL_law_392 rfl ?_
  refine j_iconst (pc' := 394) (v := 1) hκ (by decide) dL_law_393 rfl ?_
  refine j_iadd (pc' := 395) hκ dL_law_394 rfl ?_
  refine j_sld (pc' := 396) hκ hsc hv1 dL_law_395 rfl ?_
  refine j_aload_n (pc' := 397) hκ 0 rfl rfl dL_law_396 rfl ?_
  refine j_iload_n (pc' := 398) hκ 3 rfl rfl dL_law_397 rfl ?_
  refine j_iconst (pc' := 399) (v := 2) hκ (by decide) dL_law_398 rfl ?_
  refine j_iadd (pc' := 400) hκ dL_law_399 rfl ?_
  refine j_sld (pc' := 401) hκ hsc hv2 dL_law_400 rfl ?_
  refine j_aload_n (pc' := 402) hκ 0 rfl rfl dL_law_401 rfl ?_
  refine j_iload_n (pc' := 403) hκ 3 rfl rfl dL_law_402 rfl ?_
  refine j_iconst (pc' := 404) (v := 3) hκ (by decide) dL_law_403 rfl ?_
  refine j_iadd (pc' := 405) hκ dL_law_404 rfl ?_
  refine j_sld (pc' := 406) hκ hsc hv3 dL_law_405 rfl ?_
  refine j_i2l (pc' := 407) hκ dL_law_406 rfl ?_
  refine j_bipush (pc' := 409) (v := 32) hκ (by decide) dL_law_407 rfl ?_
  refine j_lshl (pc' := 410) hκ dL_law_409 rfl ?_
  refine j_aload_n (pc' := 411) hκ 0 rfl rfl dL_law_410 rfl ?_
  refine j_iload_n (pc' := 412) hκ 3 rfl rfl dL_law_411 rfl ?_
  refine j_iconst (pc' := 413) (v := 4) hκ (by decide) dL_law_412 rfl ?_
  refine j_iadd (pc' := 414) hκ dL_law_413 rfl ?_
  refine j_sld (pc' := 415) hκ hsc hv4 dL_law_414 rfl ?_
  refine j_i2l (pc' := 416) hκ dL_law_415 rfl ?_
  refine j_ldc2_w (pc' := 419) hκ wm_1_6 dL_law_416 rfl ?_
  refine j_land (pc' := 420) hκ dL_law_419 rfl ?_
  refine j_lor (pc' := 421) hκ dL_law_420 rfl ?_
  refine jm_callVi (pc' := 424) hκ (c_m_cell (dg hκ) h) rfl rfl rfl (gVa wm_13_2 wm_13_3 wm_13_4 wm_1_5 wm_13_5) hqV_X10_cell ⟨Nat.le_of_ble_eq_true rfl, Nat.le_of_ble_eq_true rfl⟩ (wg_11 g _ _) rfl rfl rfl (Nat.le_of_ble_eq_true rfl) dL_law_421 rfl (fun r2 M1 h => ?_)
  refine j_icmp_eq (tgt := 1293) (pc' := 427) hκ dL_law_424 (by decide) rfl (fun _ => ?_) (fun c9 => absurd h.1 c9)
  exact hrec _ _ h.2
theorem wm_13_6 : Cond.methodLink RL 39 yX9_told ∈ wAll := inr_13 (List.mem_of_getElem? (i := 6) rfl)
theorem wm_13_7 : Cond.instanceMethod yX9_told ∈ wAll := inr_13 (List.mem_of_getElem? (i := 7) rfl)
theorem wm_13_8 : Cond.selects RX9 yX9_told yX9_told ∈ wAll := inr_13 (List.mem_of_getElem? (i := 8) rfl)
theorem wm_13_9 : Cond.code yX9_told cX9_told 3 (some .long) ∈ wAll := inr_13 (List.mem_of_getElem? (i := 9) rfl)
theorem hqV_X9_told : yX9_told.cls = RX9 ∧ yX9_told.cls ≠ "java/lang/invoke/MethodHandle" ∧ yX9_told.cls ≠ "java/lang/invoke/VarHandle" ∧ (parseMethodDescriptor yX9_told.desc).map (fun d => d.parameters.length) = some 2 := by decide +kernel
theorem wm_13_11 : Cond.methodLink RL 43 yX10_told ∈ wAll := inr_13 (List.mem_of_getElem? (i := 11) rfl)
theorem wm_13_12 : Cond.instanceMethod yX10_told ∈ wAll := inr_13 (List.mem_of_getElem? (i := 12) rfl)
theorem wm_13_13 : Cond.selects RX10 yX10_told yX10_told ∈ wAll := inr_13 (List.mem_of_getElem? (i := 13) rfl)
theorem wm_13_14 : Cond.code yX10_told cX10_told 3 (some .long) ∈ wAll := inr_13 (List.mem_of_getElem? (i := 14) rfl)
theorem hqV_X10_told : yX10_told.cls = RX10 ∧ yX10_told.cls ≠ "java/lang/invoke/MethodHandle" ∧ yX10_told.cls ≠ "java/lang/invoke/VarHandle" ∧ (parseMethodDescriptor yX10_told.desc).map (fun d => d.parameters.length) = some 2 := by decide +kernel
set_option maxHeartbeats 4000000 in
set_option maxRecDepth 100000 in
theorem law_told {κ : Cx} {g : Gx} (hκ : CF κ g RL cL_law wAll 4 room_1) {b L : Nat} {xs : Nat → Int32} (hsc : SC κ b L xs) {Inv : ST → ST → Prop} {X M : ST} {l3 : Int32} (hv1 : vp_in (l3 + 1) L) (hv2 : vp_in (l3 + 2) L) (hv3 : vp_in (l3 + 3) L) (hv4 : vp_in (l3 + 4) L) (h : wp_LR_told X (xs (l3 + 1).toNatClampNeg) (xs (l3 + 2).toNatClampNeg) (fun r X1 => wp_m_told M (xs (l3 + 1).toNatClampNeg) (xs (l3 + 2).toNatClampNeg) (fun q M1 => r = q ∧ Inv X1 M1))) (hrec : ∀ X M, Inv X M → Jw κ g 4 X M [(0, .ref b), (1, .ref (g.2.1 0)), (2, .ref (g.2.1 11)), (3, .int l3)] 1293 []) : Jw κ g 4 X M [(0, .ref b), (1, .ref (g.2.1 0)), (2, .ref (g.2.1 11)), (3, .int l3)] 429 [] := by
  refine j_aload_n (pc' := 430) hκ 1 rfl rfl dL_law_429 rfl ?_
  refine j_aload_n (pc' := 431) hκ 0 rfl rfl dL_law_430 rfl ?_
  refine j_iload_n (pc' := 432) hκ 3 rfl rfl dL_law_431 rfl ?_
  refine j_iconst (pc' := 433) (v := 1) hκ (by decide) dL_law_432 rfl ?_
  refine j_iadd (pc' := 434) hκ dL_law_433 rfl ?_
  refine j_sld (pc' := 435) hκ hsc hv1 dL_law_434 rfl ?_
  refine j_aload_n (pc' := 436) hκ 0 rfl rfl dL_law_435 rfl ?_
  refine j_iload_n (pc' := 437) hκ 3 rfl rfl dL_law_436 rfl ?_
  refine j_iconst (pc' := 438) (v := 2) hκ (by decide) dL_law_437 rfl ?_
  refine j_iadd (pc' := 439) hκ dL_law_438 rfl ?_
  refine j_sld (pc' := 440) hκ hsc hv2 dL_law_439 rfl ?_
  refine jx_callVl (pc' := 443) hκ (c_LR_told (dg hκ) h) rfl rfl rfl (gVa wm_13_6 wm_13_7 wm_13_8 wm_1_2 wm_13_9) hqV_X9_told ⟨Nat.le_of_ble_eq_true rfl, Nat.le_of_ble_eq_true rfl⟩ (wg_0 g _ _) rfl rfl rfl (Nat.le_of_ble_eq_true rfl) dL_law_440 rfl (fun r1 X1 h => ?_)
  refine j_aload_n (pc' := 444) hκ 2 rfl rfl dL_law_443 rfl ?_
  refine j_aload_n (pc' := 445) hκ 0 rfl rfl dL_law_444 rfl ?_
  refine j_iload_n (pc' := 446) hκ 3 rfl rfl dL_law_445 rfl ?_
  refine j_iconst (pc' := 447) (v := 1) hκ (by decide) dL_law_446 rfl ?_
  refine j_iadd (pc' := 448) hκ dL_law_447 rfl ?_
  refine j_sld (pc' := 449) hκ hsc hv1 dL_law_448 rfl ?_
  refine j_aload_n (pc' := 450) hκ 0 rfl rfl dL_law_449 rfl ?_
  refine j_iload_n (pc' := 451) hκ 3 rfl rfl dL_law_450 rfl ?_
  refine j_iconst (pc' := 452) (v := 2) hκ (by decide) dL_law_451 rfl ?_
  refine j_iadd (pc' := 453) hκ dL_law_452 rfl ?_
  refine j_sld (pc' := 454) hκ hsc hv2 dL_law_453 rfl ?_
  refine jm_callVl (pc' := 457) hκ (c_m_told (dg hκ) h) rfl rfl rfl (gVa wm_13_11 wm_13_12 wm_13_13 wm_1_5 wm_13_14) hqV_X10_told ⟨Nat.le_of_ble_eq_true rfl, Nat.le_of_ble_eq_true rfl⟩ (wg_11 g _ _) rfl rfl rfl (Nat.le_of_ble_eq_true rfl) dL_law_454 rfl (fun r2 M1 h => ?_)
  refine j_lc_eq (tgt := 1293) (pc1 := 458) (pc' := 461) hκ dL_law_457 rfl dL_law_458 (by decide) rfl (fun _ => ?_) (fun c9 => absurd h.1 c9)
  exact hrec _ _ h.2
theorem wm_13_16 : Cond.methodLink RL 44 yX9_lose ∈ wAll := inr_13 (List.mem_of_getElem? (i := 16) rfl)
theorem wm_13_17 : Cond.instanceMethod yX9_lose ∈ wAll := inr_13 (List.mem_of_getElem? (i := 17) rfl)
theorem wm_13_18 : Cond.selects RX9 yX9_lose yX9_lose ∈ wAll := inr_13 (List.mem_of_getElem? (i := 18) rfl)
theorem wm_13_19 : Cond.code yX9_lose cX9_lose 2 (some .int) ∈ wAll := inr_13 (List.mem_of_getElem? (i := 19) rfl)
theorem hqV_X9_lose : yX9_lose.cls = RX9 ∧ yX9_lose.cls ≠ "java/lang/invoke/MethodHandle" ∧ yX9_lose.cls ≠ "java/lang/invoke/VarHandle" ∧ (parseMethodDescriptor yX9_lose.desc).map (fun d => d.parameters.length) = some 1 := by decide +kernel
theorem wm_14_0 : Cond.methodLink RL 48 yX10_lose ∈ wAll := inr_14 (List.mem_of_getElem? (i := 0) rfl)
theorem wm_14_1 : Cond.instanceMethod yX10_lose ∈ wAll := inr_14 (List.mem_of_getElem? (i := 1) rfl)
theorem wm_14_2 : Cond.selects RX10 yX10_lose yX10_lose ∈ wAll := inr_14 (List.mem_of_getElem? (i := 2) rfl)
theorem wm_14_3 : Cond.code yX10_lose cX10_lose 2 (some .int) ∈ wAll := inr_14 (List.mem_of_getElem? (i := 3) rfl)
theorem hqV_X10_lose : yX10_lose.cls = RX10 ∧ yX10_lose.cls ≠ "java/lang/invoke/MethodHandle" ∧ yX10_lose.cls ≠ "java/lang/invoke/VarHandle" ∧ (parseMethodDescriptor yX10_lose.desc).map (fun d => d.parameters.length) = some 1 := by decide +kernel
set_option maxHeartbeats 4000000 in
set_option maxRecDepth 100000 in
theorem law_lose {κ : Cx} {g : Gx} (hκ : CF κ g RL cL_law wAll 4 room_1) {b L : Nat} {xs : Nat → Int32} (hsc : SC κ b L xs) {Inv : ST → ST → Prop} {X M : ST} {l3 : Int32} (hv1 : vp_in (l3 + 1) L) (hv2 : vp_in (l3 + 2) L) (hv3 : vp_in (l3 + 3) L) (hv4 : vp_in (l3 + 4) L) (h : wp_LR_lose X (xs (l3 + 1).toNatClampNeg) (fun r X1 => wp_m_lose M (xs (l3 + 1).toNatClampNeg) (fun q M1 => r = q ∧ Inv X1 M1))) (hrec : ∀ X M, Inv X M → Jw κ g 4 X M [(0, .ref b), (1, .ref (g.2.1 0)), (2, .ref (g.2.1 11)), (3, .int l3)] 1293 []) : Jw κ g 4 X M [(0, .ref b), (1, .ref (g.2.1 0)), (2, .ref (g.2.1 11)), (3, .int l3)] 463 [] := by
  refine j_aload_n (pc' := 464) hκ 1 rfl rfl dL_law_463 rfl ?_
  refine j_aload_n (pc' := 465) hκ 0 rfl rfl dL_law_464 rfl ?_
  refine j_iload_n (pc' := 466) hκ 3 rfl rfl dL_law_465 rfl ?_
  refine j_iconst (pc' := 467) (v := 1) hκ (by decide) dL_law_466 rfl ?_
  refine j_iadd (pc' := 468) hκ dL_law_467 rfl ?_
  refine j_sld (pc' := 469) hκ hsc hv1 dL_law_468 rfl ?_
  refine jx_callVi (pc' := 472) hκ (c_LR_lose (dg hκ) h) rfl rfl rfl (gVa wm_13_16 wm_13_17 wm_13_18 wm_1_2 wm_13_19) hqV_X9_lose ⟨Nat.le_of_ble_eq_true rfl, Nat.le_of_ble_eq_true rfl⟩ (wg_0 g _ _) rfl rfl rfl (Nat.le_of_ble_eq_true rfl) dL_law_469 rfl (fun r1 X1 h => ?_)
  refine j_aload_n (pc' := 473) hκ 2 rfl rfl dL_law_472 rfl ?_
  refine j_aload_n (pc' := 474) hκ 0 rfl rfl dL_law_473 rfl ?_
  refine j_iload_n (pc' := 475) hκ 3 rfl rfl dL_law_474 rfl ?_
  refine j_iconst (pc' := 476) (v := 1) hκ (by decide) dL_law_475 rfl ?_
  refine j_iadd (pc' := 477) hκ dL_law_476 rfl ?_
  refine j_sld (pc' := 478) hκ hsc hv1 dL_law_477 rfl ?_
  refine jm_callVi (pc' := 481) hκ (c_m_lose (dg hκ) h) rfl rfl rfl (gVa wm_14_0 wm_14_1 wm_14_2 wm_1_5 wm_14_3) hqV_X10_lose ⟨Nat.le_of_ble_eq_true rfl, Nat.le_of_ble_eq_true rfl⟩ (wg_11 g _ _) rfl rfl rfl (Nat.le_of_ble_eq_true rfl) dL_law_478 rfl (fun r2 M1 h => ?_)
  refine j_icmp_eq (tgt := 1293) (pc' := 484) hκ dL_law_481 (by decide) rfl (fun _ => ?_) (fun c9 => absurd h.1 c9)
  exact hrec _ _ h.2
theorem wm_14_4 : Cond.methodLink RL 49 yX9_lay ∈ wAll := inr_14 (List.mem_of_getElem? (i := 4) rfl)
theorem wm_14_5 : Cond.instanceMethod yX9_lay ∈ wAll := inr_14 (List.mem_of_getElem? (i := 5) rfl)
theorem wm_14_6 : Cond.selects RX9 yX9_lay yX9_lay ∈ wAll := inr_14 (List.mem_of_getElem? (i := 6) rfl)
theorem wm_14_7 : Cond.code yX9_lay cX9_lay 6 (some .int) ∈ wAll := inr_14 (List.mem_of_getElem? (i := 7) rfl)
theorem hqV_X9_lay : yX9_lay.cls = RX9 ∧ yX9_lay.cls ≠ "java/lang/invoke/MethodHandle" ∧ yX9_lay.cls ≠ "java/lang/invoke/VarHandle" ∧ (parseMethodDescriptor yX9_lay.desc).map (fun d => d.parameters.length) = some 4 := by decide +kernel
theorem wm_14_12 : Cond.methodLink RL 53 yX10_lay ∈ wAll := inr_14 (List.mem_of_getElem? (i := 12) rfl)
theorem wm_14_13 : Cond.instanceMethod yX10_lay ∈ wAll := inr_14 (List.mem_of_getElem? (i := 13) rfl)
theorem wm_14_14 : Cond.selects RX10 yX10_lay yX10_lay ∈ wAll := inr_14 (List.mem_of_getElem? (i := 14) rfl)
theorem wm_14_15 : Cond.code yX10_lay cX10_lay 8 (some .int) ∈ wAll := inr_14 (List.mem_of_getElem? (i := 15) rfl)
theorem hqV_X10_lay : yX10_lay.cls = RX10 ∧ yX10_lay.cls ≠ "java/lang/invoke/MethodHandle" ∧ yX10_lay.cls ≠ "java/lang/invoke/VarHandle" ∧ (parseMethodDescriptor yX10_lay.desc).map (fun d => d.parameters.length) = some 4 := by decide +kernel
set_option maxHeartbeats 4000000 in
set_option maxRecDepth 100000 in
theorem law_lay {κ : Cx} {g : Gx} (hκ : CF κ g RL cL_law wAll 4 room_1) {b L : Nat} {xs : Nat → Int32} (hsc : SC κ b L xs) {Inv : ST → ST → Prop} {X M : ST} {l3 : Int32} (hv1 : vp_in (l3 + 1) L) (hv2 : vp_in (l3 + 2) L) (hv3 : vp_in (l3 + 3) L) (hv4 : vp_in (l3 + 4) L) (h : wp_LR_lay X (xs (l3 + 1).toNatClampNeg) (xs (l3 + 2).toNatClampNeg) (xs (l3 + 3).toNatClampNeg) (xs (l3 + 4).toNatClampNeg) (fun r X1 => wp_m_lay M (xs (l3 + 1).toNatClampNeg) (xs (l3 + 2).toNatClampNeg) (xs (l3 + 3).toNatClampNeg) (xs (l3 + 4).toNatClampNeg) (fun q M1 => r = q ∧ Inv X1 M1))) (hrec : ∀ X M, Inv X M → Jw κ g 4 X M [(0, .ref b), (1, .ref (g.2.1 0)), (2, .ref (g.2.1 11)), (3, .int l3)] 1293 []) : Jw κ g 4 X M [(0, .ref b), (1, .ref (g.2.1 0)), (2, .ref (g.2.1 11)), (3, .int l3)] 486 [] := by
  refine j_aload_n (pc' := 487) hκ 1 rfl rfl dL_law_486 rfl ?_
  refine j_aload_n (pc' := 488) hκ 0 rfl rfl dL_law_487 rfl ?_
  refine j_iload_n (pc' := 489) hκ 3 rfl rfl dL_law_488 rfl ?_
  refine j_iconst (pc' := 490) (v := 1) hκ (by decide) dL_law_489 rfl ?_
  refine j_iadd (pc' := 491) hκ dL_law_490 rfl ?_
  refine j_sld (pc' := 492) hκ hsc hv1 dL_law_491 rfl ?_
  refine j_aload_n (pc' := 493) hκ 0 rfl rfl dL_law_492 rfl ?_
  refine j_iload_n (pc' := 494) hκ 3 rfl rfl dL_law_493 rfl ?_
  refine j_iconst (pc' := 495) (v := 2) hκ (by decide) dL_law_494 rfl ?_
  refine j_iadd (pc' := 496) hκ dL_law_495 rfl ?_
  refine j_sld (pc' := 497) hκ hsc hv2 dL_law_496 rfl ?_
  refine j_aload_n (pc' := 498) hκ 0 rfl rfl dL_law_497 rfl ?_
  refine j_iload_n (pc' := 499) hκ 3 rfl rfl dL_law_498 rfl ?_
  refine j_iconst (pc' := 500) (v := 3) hκ (by decide) dL_law_499 rfl ?_
  refine j_iadd (pc' := 501) hκ dL_law_500 rfl ?_
  refine j_sld (pc' := 502) hκ hsc hv3 dL_law_501 rfl ?_
  refine j_aload_n (pc' := 503) hκ 0 rfl rfl dL_law_502 rfl ?_
  refine j_iload_n (pc' := 504) hκ 3 rfl rfl dL_law_503 rfl ?_
  refine j_iconst (pc' := 505) (v := 4) hκ (by decide) dL_law_504 rfl ?_
  refine j_iadd (pc' := 506) hκ dL_law_505 rfl ?_
  refine j_sld (pc' := 507) hκ hsc hv4 dL_law_506 rfl ?_
  refine jx_callVi (pc' := 510) hκ (c_LR_lay (dg hκ) h) rfl rfl rfl (gVa wm_14_4 wm_14_5 wm_14_6 wm_1_2 wm_14_7) hqV_X9_lay ⟨Nat.le_of_ble_eq_true rfl, Nat.le_of_ble_eq_true rfl⟩ (wg_0 g _ _) rfl rfl rfl (Nat.le_of_ble_eq_true rfl) dL_law_507 rfl (fun r1 X1 h => ?_)
  refine j_aload_n (pc' := 511) hκ 2 rfl rfl dL_law_510 rfl ?_
  refine j_aload_n (pc' := 512) hκ 0 rfl rfl dL_law_511 rfl ?_
  refine j_iload_n (pc' := 513) hκ 3 rfl rfl dL_law_512 rfl ?_
  refine j_iconst (pc' := 514) (v := 1) hκ (by decide) dL_law_513 rfl ?_
  refine j_iadd (pc' := 515) hκ dL_law_514 rfl ?_
  refine j_sld (pc' := 516) hκ hsc hv1 dL_law_515 rfl ?_
  refine j_aload_n (pc' := 517) hκ 0 rfl rfl dL_law_516 rfl ?_
  refine j_iload_n (pc' := 518) hκ 3 rfl rfl dL_law_517 rfl ?_
  refine j_iconst (pc' := 519) (v := 2) hκ (by decide) dL_law_518 rfl ?_
  refine j_iadd (pc' := 520) hκ dL_law_519 rfl ?_
  refine j_sld (pc' := 521) hκ hsc hv2 dL_law_520 rfl ?_
  refine j_aload_n (pc' := 522) hκ 0 rfl rfl dL_law_521 rfl ?_
  refine j_iload_n (pc' := 523) hκ 3 rfl rfl dL_law_522 rfl ?_
  refine j_iconst (pc' := 524) (v := 3) hκ (by decide) dL_law_523 rfl ?_
  refine j_iadd (pc' := 525) hκ dL_law_524 rfl ?_
  refine j_sld (pc' := 526) hκ hsc hv3 dL_law_525 rfl ?_
  refine j_aload_n (pc' := 527) hκ 0 rfl rfl dL_law_526 rfl ?_
  refine j_iload_n (pc' := 528) hκ 3 rfl rfl dL_law_527 rfl ?_
  refine j_iconst (pc' := 529) (v := 4) hκ (by decide) dL_law_528 rfl ?_
  refine j_iadd (pc' := 530) hκ dL_law_529 rfl ?_
  refine j_sld (pc' := 531) hκ hsc hv4 dL_law_530 rfl ?_
  refine jm_callVi (pc' := 534) hκ (c_m_lay (dg hκ) h) rfl rfl rfl (gVa wm_14_12 wm_14_13 wm_14_14 wm_1_5 wm_14_15) hqV_X10_lay ⟨Nat.le_of_ble_eq_true rfl, Nat.le_of_ble_eq_true rfl⟩ (wg_11 g _ _) rfl rfl rfl (Nat.le_of_ble_eq_true rfl) dL_law_531 rfl (fun r2 M1 h => ?_)
  refine j_icmp_eq (tgt := 1293) (pc' := 537) hκ dL_law_534 (by decide) rfl (fun _ => ?_) (fun c9 => absurd h.1 c9)
  exact hrec _ _ h.2
theorem wm_14_17 : Cond.methodLink RL 54 yX9_way ∈ wAll := inr_14 (List.mem_of_getElem? (i := 17) rfl)
theorem wm_14_18 : Cond.instanceMethod yX9_way ∈ wAll := inr_14 (List.mem_of_getElem? (i := 18) rfl)
theorem wm_14_19 : Cond.selects RX9 yX9_way yX9_way ∈ wAll := inr_14 (List.mem_of_getElem? (i := 19) rfl)
theorem wm_14_20 : Cond.code yX9_way cX9_way 4 (some .int) ∈ wAll := inr_14 (List.mem_of_getElem? (i := 20) rfl)
theorem hqV_X9_way : yX9_way.cls = RX9 ∧ yX9_way.cls ≠ "java/lang/invoke/MethodHandle" ∧ yX9_way.cls ≠ "java/lang/invoke/VarHandle" ∧ (parseMethodDescriptor yX9_way.desc).map (fun d => d.parameters.length) = some 2 := by decide +kernel
theorem wm_15_12 : Cond.methodLink RL 57 yX10_way ∈ wAll := inr_15 (List.mem_of_getElem? (i := 12) rfl)
theorem wm_15_13 : Cond.instanceMethod yX10_way ∈ wAll := inr_15 (List.mem_of_getElem? (i := 13) rfl)
theorem wm_15_14 : Cond.selects RX10 yX10_way yX10_way ∈ wAll := inr_15 (List.mem_of_getElem? (i := 14) rfl)
theorem wm_15_15 : Cond.code yX10_way cX10_way 4 (some .int) ∈ wAll := inr_15 (List.mem_of_getElem? (i := 15) rfl)
theorem hqV_X10_way : yX10_way.cls = RX10 ∧ yX10_way.cls ≠ "java/lang/invoke/MethodHandle" ∧ yX10_way.cls ≠ "java/lang/invoke/VarHandle" ∧ (parseMethodDescriptor yX10_way.desc).map (fun d => d.parameters.length) = some 2 := by decide +kernel
set_option maxHeartbeats 4000000 in
set_option maxRecDepth 100000 in
theorem law_way {κ : Cx} {g : Gx} (hκ : CF κ g RL cL_law wAll 4 room_1) {b L : Nat} {xs : Nat → Int32} (hsc : SC κ b L xs) {Inv : ST → ST → Prop} {X M : ST} {l3 : Int32} (hv1 : vp_in (l3 + 1) L) (hv2 : vp_in (l3 + 2) L) (hv3 : vp_in (l3 + 3) L) (hv4 : vp_in (l3 + 4) L) (h : wp_LR_way X (xs (l3 + 1).toNatClampNeg) (xs (l3 + 2).toNatClampNeg) (fun r X1 => wp_m_way M (xs (l3 + 1).toNatClampNeg) (xs (l3 + 2).toNatClampNeg) (fun q M1 => r = q ∧ Inv X1 M1))) (hrec : ∀ X M, Inv X M → Jw κ g 4 X M [(0, .ref b), (1, .ref (g.2.1 0)), (2, .ref (g.2.1 11)), (3, .int l3)] 1293 []) : Jw κ g 4 X M [(0, .ref b), (1, .ref (g.2.1 0)), (2, .ref (g.2.1 11)), (3, .int l3)] 539 [] := by
  refine j_aload_n (pc' := 540) hκ 1 rfl rfl dL_law_539 rfl ?_
  refine j_aload_n (pc' := 541) hκ 0 rfl rfl dL_law_540 rfl ?_
  refine j_iload_n (pc' := 542) hκ 3 rfl rfl dL_law_541 rfl ?_
  refine j_iconst (pc' := 543) (v := 1) hκ (by decide) dL_law_542 rfl ?_
  refine j_iadd (pc' := 544) hκ dL_law_543 rfl ?_
  refine j_sld (pc' := 545) hκ hsc hv1 dL_law_544 rfl ?_
  refine j_aload_n (pc' := 546) hκ 0 rfl rfl dL_law_545 rfl ?_
  refine j_iload_n (pc' := 547) hκ 3 rfl rfl dL_law_546 rfl ?_
  refine j_iconst (pc' := 548) (v := 2) hκ (by decide) dL_law_547 rfl ?_
  refine j_iadd (pc' := 549) hκ dL_law_548 rfl ?_
  refine j_sld (pc' := 550) hκ hsc hv2 dL_law_549 rfl ?_
  refine jx_callVi (pc' := 553) hκ (c_LR_way (dg hκ) h) rfl rfl rfl (gVa wm_14_17 wm_14_18 wm_14_19 wm_1_2 wm_14_20) hqV_X9_way ⟨Nat.le_of_ble_eq_true rfl, Nat.le_of_ble_eq_true rfl⟩ (wg_0 g _ _) rfl rfl rfl (Nat.le_of_ble_eq_true rfl) dL_law_550 rfl (fun r1 X1 h => ?_)
  refine j_aload_n (pc' := 554) hκ 2 rfl rfl dL_law_553 rfl ?_
  refine j_aload_n (pc' := 555) hκ 0 rfl rfl dL_law_554 rfl ?_
  refine j_iload_n (pc' := 556) hκ 3 rfl rfl dL_law_555 rfl ?_
  refine j_iconst (pc' := 557) (v := 1) hκ (by decide) dL_law_556 rfl ?_
  refine j_iadd (pc' := 558) hκ dL_law_557 rfl ?_
  refine j_sld (pc' := 559) hκ hsc hv1 dL_law_558 rfl ?_
  refine j_aload_n (pc' := 560) hκ 0 rfl rfl dL_law_559 rfl ?_
  refine j_iload_n (pc' := 561) hκ 3 rfl rfl dL_law_560 rfl ?_
  refine j_iconst (pc' := 562) (v := 2) hκ (by decide) dL_law_561 rfl ?_
  refine j_iadd (pc' := 563) hκ dL_law_562 rfl ?_
  refine j_sld (pc' := 564) hκ hsc hv2 dL_law_563 rfl ?_
  refine jm_callVi (pc' := 567) hκ (c_m_way (dg hκ) h) rfl rfl rfl (gVa wm_15_12 wm_15_13 wm_15_14 wm_1_5 wm_15_15) hqV_X10_way ⟨Nat.le_of_ble_eq_true rfl, Nat.le_of_ble_eq_true rfl⟩ (wg_11 g _ _) rfl rfl rfl (Nat.le_of_ble_eq_true rfl) dL_law_564 rfl (fun r2 M1 h => ?_)
  refine j_icmp_eq (tgt := 1293) (pc' := 570) hκ dL_law_567 (by decide) rfl (fun _ => ?_) (fun c9 => absurd h.1 c9)
  exact hrec _ _ h.2
theorem wm_15_16 : Cond.methodLink RL 58 yX9_walk ∈ wAll := inr_15 (List.mem_of_getElem? (i := 16) rfl)
theorem wm_15_17 : Cond.instanceMethod yX9_walk ∈ wAll := inr_15 (List.mem_of_getElem? (i := 17) rfl)
theorem wm_15_18 : Cond.selects RX9 yX9_walk yX9_walk ∈ wAll := inr_15 (List.mem_of_getElem? (i := 18) rfl)
theorem wm_15_19 : Cond.code yX9_walk cX9_walk 4 (some .int) ∈ wAll := inr_15 (List.mem_of_getElem? (i := 19) rfl)
theorem hqV_X9_walk : yX9_walk.cls = RX9 ∧ yX9_walk.cls ≠ "java/lang/invoke/MethodHandle" ∧ yX9_walk.cls ≠ "java/lang/invoke/VarHandle" ∧ (parseMethodDescriptor yX9_walk.desc).map (fun d => d.parameters.length) = some 3 := by decide +kernel
theorem wm_16_9 : Cond.methodLink RL 61 yX10_walk ∈ wAll := inr_16 (List.mem_of_getElem? (i := 9) rfl)
theorem wm_16_10 : Cond.instanceMethod yX10_walk ∈ wAll := inr_16 (List.mem_of_getElem? (i := 10) rfl)
theorem wm_16_11 : Cond.selects RX10 yX10_walk yX10_walk ∈ wAll := inr_16 (List.mem_of_getElem? (i := 11) rfl)
theorem wm_16_12 : Cond.code yX10_walk cX10_walk 6 (some .int) ∈ wAll := inr_16 (List.mem_of_getElem? (i := 12) rfl)
theorem hqV_X10_walk : yX10_walk.cls = RX10 ∧ yX10_walk.cls ≠ "java/lang/invoke/MethodHandle" ∧ yX10_walk.cls ≠ "java/lang/invoke/VarHandle" ∧ (parseMethodDescriptor yX10_walk.desc).map (fun d => d.parameters.length) = some 3 := by decide +kernel
set_option maxHeartbeats 4000000 in
set_option maxRecDepth 100000 in
theorem law_walk {κ : Cx} {g : Gx} (hκ : CF κ g RL cL_law wAll 4 room_1) {b L : Nat} {xs : Nat → Int32} (hsc : SC κ b L xs) {Inv : ST → ST → Prop} {X M : ST} {l3 : Int32} (hv1 : vp_in (l3 + 1) L) (hv2 : vp_in (l3 + 2) L) (hv3 : vp_in (l3 + 3) L) (hv4 : vp_in (l3 + 4) L) (h : wp_LR_walk X (xs (l3 + 1).toNatClampNeg) (xs (l3 + 2).toNatClampNeg) (xs (l3 + 3).toNatClampNeg) (fun r X1 => wp_m_walk M (xs (l3 + 1).toNatClampNeg) (xs (l3 + 2).toNatClampNeg) (xs (l3 + 3).toNatClampNeg) (fun q M1 => r = q ∧ Inv X1 M1))) (hrec : ∀ X M, Inv X M → Jw κ g 4 X M [(0, .ref b), (1, .ref (g.2.1 0)), (2, .ref (g.2.1 11)), (3, .int l3)] 1293 []) : Jw κ g 4 X M [(0, .ref b), (1, .ref (g.2.1 0)), (2, .ref (g.2.1 11)), (3, .int l3)] 572 [] := by
  refine j_aload_n (pc' := 573) hκ 1 rfl rfl dL_law_572 rfl ?_
  refine j_aload_n (pc' := 574) hκ 0 rfl rfl dL_law_573 rfl ?_
  refine j_iload_n (pc' := 575) hκ 3 rfl rfl dL_law_574 rfl ?_
  refine j_iconst (pc' := 576) (v := 1) hκ (by decide) dL_law_575 rfl ?_
  refine j_iadd (pc' := 577) hκ dL_law_576 rfl ?_
  refine j_sld (pc' := 578) hκ hsc hv1 dL_law_577 rfl ?_
  refine j_aload_n (pc' := 579) hκ 0 rfl rfl dL_law_578 rfl ?_
  refine j_iload_n (pc' := 580) hκ 3 rfl rfl dL_law_579 rfl ?_
  refine j_iconst (pc' := 581) (v := 2) hκ (by decide) dL_law_580 rfl ?_
  refine j_iadd (pc' := 582) hκ dL_law_581 rfl ?_
  refine j_sld (pc' := 583) hκ hsc hv2 dL_law_582 rfl ?_
  refine j_aload_n (pc' := 584) hκ 0 rfl rfl dL_law_583 rfl ?_
  refine j_iload_n (pc' := 585) hκ 3 rfl rfl dL_law_584 rfl ?_
  refine j_iconst (pc' := 586) (v := 3) hκ (by decide) dL_law_585 rfl ?_
  refine j_iadd (pc' := 587) hκ dL_law_586 rfl ?_
  refine j_sld (pc' := 588) hκ hsc hv3 dL_law_587 rfl ?_
  refine jx_callVi (pc' := 591) hκ (c_LR_walk (dg hκ) h) rfl rfl rfl (gVa wm_15_16 wm_15_17 wm_15_18 wm_1_2 wm_15_19) hqV_X9_walk ⟨Nat.le_of_ble_eq_true rfl, Nat.le_of_ble_eq_true rfl⟩ (wg_0 g _ _) rfl rfl rfl (Nat.le_of_ble_eq_true rfl) dL_law_588 rfl (fun r1 X1 h => ?_)
  refine j_aload_n (pc' := 592) hκ 2 rfl rfl dL_law_591 rfl ?_
  refine j_aload_n (pc' := 593) hκ 0 rfl rfl dL_law_592 rfl ?_
  refine j_iload_n (pc' := 594) hκ 3 rfl rfl dL_law_593 rfl ?_
  refine j_iconst (pc' := 595) (v := 1) hκ (by decide) dL_law_594 rfl ?_
  refine j_iadd (pc' := 596) hκ dL_law_595 rfl ?_
  refine j_sld (pc' := 597) hκ hsc hv1 dL_law_596 rfl ?_
  refine j_aload_n (pc' := 598) hκ 0 rfl rfl dL_law_597 rfl ?_
  refine j_iload_n (pc' := 599) hκ 3 rfl rfl dL_law_598 rfl ?_
  refine j_iconst (pc' := 600) (v := 2) hκ (by decide) dL_law_599 rfl ?_
  refine j_iadd (pc' := 601) hκ dL_law_600 rfl ?_
  refine j_sld (pc' := 602) hκ hsc hv2 dL_law_601 rfl ?_
  refine j_aload_n (pc' := 603) hκ 0 rfl rfl dL_law_602 rfl ?_
  refine j_iload_n (pc' := 604) hκ 3 rfl rfl dL_law_603 rfl ?_
  refine j_iconst (pc' := 605) (v := 3) hκ (by decide) dL_law_604 rfl ?_
  refine j_iadd (pc' := 606) hκ dL_law_605 rfl ?_
  refine j_sld (pc' := 607) hκ hsc hv3 dL_law_606 rfl ?_
  refine jm_callVi (pc' := 610) hκ (c_m_walk (dg hκ) h) rfl rfl rfl (gVa wm_16_9 wm_16_10 wm_16_11 wm_1_5 wm_16_12) hqV_X10_walk ⟨Nat.le_of_ble_eq_true rfl, Nat.le_of_ble_eq_true rfl⟩ (wg_11 g _ _) rfl rfl rfl (Nat.le_of_ble_eq_true rfl) dL_law_607 rfl (fun r2 M1 h => ?_)
  refine j_icmp_eq (tgt := 1293) (pc' := 613) hκ dL_law_610 (by decide) rfl (fun _ => ?_) (fun c9 => absurd h.1 c9)
  exact hrec _ _ h.2
theorem wm_16_17 : Cond.methodLink RL 62 yX9_lamp ∈ wAll := inr_16 (List.mem_of_getElem? (i := 17) rfl)
theorem wm_16_18 : Cond.instanceMethod yX9_lamp ∈ wAll := inr_16 (List.mem_of_getElem? (i := 18) rfl)
theorem wm_16_19 : Cond.selects RX9 yX9_lamp yX9_lamp ∈ wAll := inr_16 (List.mem_of_getElem? (i := 19) rfl)
theorem wm_16_20 : Cond.code yX9_lamp cX9_lamp 5 (some .int) ∈ wAll := inr_16 (List.mem_of_getElem? (i := 20) rfl)
theorem hqV_X9_lamp : yX9_lamp.cls = RX9 ∧ yX9_lamp.cls ≠ "java/lang/invoke/MethodHandle" ∧ yX9_lamp.cls ≠ "java/lang/invoke/VarHandle" ∧ (parseMethodDescriptor yX9_lamp.desc).map (fun d => d.parameters.length) = some 3 := by decide +kernel
theorem wm_17_9 : Cond.methodLink RL 65 yX10_lamp ∈ wAll := inr_17 (List.mem_of_getElem? (i := 9) rfl)
theorem wm_17_10 : Cond.instanceMethod yX10_lamp ∈ wAll := inr_17 (List.mem_of_getElem? (i := 10) rfl)
theorem wm_17_11 : Cond.selects RX10 yX10_lamp yX10_lamp ∈ wAll := inr_17 (List.mem_of_getElem? (i := 11) rfl)
theorem wm_17_12 : Cond.code yX10_lamp cX10_lamp 5 (some .int) ∈ wAll := inr_17 (List.mem_of_getElem? (i := 12) rfl)
theorem hqV_X10_lamp : yX10_lamp.cls = RX10 ∧ yX10_lamp.cls ≠ "java/lang/invoke/MethodHandle" ∧ yX10_lamp.cls ≠ "java/lang/invoke/VarHandle" ∧ (parseMethodDescriptor yX10_lamp.desc).map (fun d => d.parameters.length) = some 3 := by decide +kernel
set_option maxHeartbeats 4000000 in
set_option maxRecDepth 100000 in
theorem law_lamp {κ : Cx} {g : Gx} (hκ : CF κ g RL cL_law wAll 4 room_1) {b L : Nat} {xs : Nat → Int32} (hsc : SC κ b L xs) {Inv : ST → ST → Prop} {X M : ST} {l3 : Int32} (hv1 : vp_in (l3 + 1) L) (hv2 : vp_in (l3 + 2) L) (hv3 : vp_in (l3 + 3) L) (hv4 : vp_in (l3 + 4) L) (h : wp_LR_lamp X (xs (l3 + 1).toNatClampNeg) (xs (l3 + 2).toNatClampNeg) (xs (l3 + 3).toNatClampNeg) (fun r X1 => wp_m_lamp M (xs (l3 + 1).toNatClampNeg) (xs (l3 + 2).toNatClampNeg) (xs (l3 + 3).toNatClampNeg) (fun q M1 => r = q ∧ Inv X1 M1))) (hrec : ∀ X M, Inv X M → Jw κ g 4 X M [(0, .ref b), (1, .ref (g.2.1 0)), (2, .ref (g.2.1 11)), (3, .int l3)] 1293 []) : Jw κ g 4 X M [(0, .ref b), (1, .ref (g.2.1 0)), (2, .ref (g.2.1 11)), (3, .int l3)] 615 [] := by
  refine j_aload_n (pc' := 616) hκ 1 rfl rfl dL_law_615 rfl ?_
  refine j_aload_n (pc' := 617) hκ 0 rfl rfl dL_law_616 rfl ?_
  refine j_iload_n (pc' := 618) hκ 3 rfl rfl dL_law_617 rfl ?_
  refine j_iconst (pc' := 619) (v := 1) hκ (by decide) dL_law_618 rfl ?_
  refine j_iadd (pc' := 620) hκ dL_law_619 rfl ?_
  refine j_sld (pc' := 621) hκ hsc hv1 dL_law_620 rfl ?_
  refine j_aload_n (pc' := 622) hκ 0 rfl rfl dL_law_621 rfl ?_
  refine j_iload_n (pc' := 623) hκ 3 rfl rfl dL_law_622 rfl ?_
  refine j_iconst (pc' := 624) (v := 2) hκ (by decide) dL_law_623 rfl ?_
  refine j_iadd (pc' := 625) hκ dL_law_624 rfl ?_
  refine j_sld (pc' := 626) hκ hsc hv2 dL_law_625 rfl ?_
  refine j_aload_n (pc' := 627) hκ 0 rfl rfl dL_law_626 rfl ?_
  refine j_iload_n (pc' := 628) hκ 3 rfl rfl dL_law_627 rfl ?_
  refine j_iconst (pc' := 629) (v := 3) hκ (by decide) dL_law_628 rfl ?_
  refine j_iadd (pc' := 630) hκ dL_law_629 rfl ?_
  refine j_sld (pc' := 631) hκ hsc hv3 dL_law_630 rfl ?_
  refine jx_callVi (pc' := 634) hκ (c_LR_lamp (dg hκ) h) rfl rfl rfl (gVa wm_16_17 wm_16_18 wm_16_19 wm_1_2 wm_16_20) hqV_X9_lamp ⟨Nat.le_of_ble_eq_true rfl, Nat.le_of_ble_eq_true rfl⟩ (wg_0 g _ _) rfl rfl rfl (Nat.le_of_ble_eq_true rfl) dL_law_631 rfl (fun r1 X1 h => ?_)
  refine j_aload_n (pc' := 635) hκ 2 rfl rfl dL_law_634 rfl ?_
  refine j_aload_n (pc' := 636) hκ 0 rfl rfl dL_law_635 rfl ?_
  refine j_iload_n (pc' := 637) hκ 3 rfl rfl dL_law_636 rfl ?_
  refine j_iconst (pc' := 638) (v := 1) hκ (by decide) dL_law_637 rfl ?_
  refine j_iadd (pc' := 639) hκ dL_law_638 rfl ?_
  refine j_sld (pc' := 640) hκ hsc hv1 dL_law_639 rfl ?_
  refine j_aload_n (pc' := 641) hκ 0 rfl rfl dL_law_640 rfl ?_
  refine j_iload_n (pc' := 642) hκ 3 rfl rfl dL_law_641 rfl ?_
  refine j_iconst (pc' := 643) (v := 2) hκ (by decide) dL_law_642 rfl ?_
  refine j_iadd (pc' := 644) hκ dL_law_643 rfl ?_
  refine j_sld (pc' := 645) hκ hsc hv2 dL_law_644 rfl ?_
  refine j_aload_n (pc' := 646) hκ 0 rfl rfl dL_law_645 rfl ?_
  refine j_iload_n (pc' := 647) hκ 3 rfl rfl dL_law_646 rfl ?_
  refine j_iconst (pc' := 648) (v := 3) hκ (by decide) dL_law_647 rfl ?_
  refine j_iadd (pc' := 649) hκ dL_law_648 rfl ?_
  refine j_sld (pc' := 650) hκ hsc hv3 dL_law_649 rfl ?_
  refine jm_callVi (pc' := 653) hκ (c_m_lamp (dg hκ) h) rfl rfl rfl (gVa wm_17_9 wm_17_10 wm_17_11 wm_1_5 wm_17_12) hqV_X10_lamp ⟨Nat.le_of_ble_eq_true rfl, Nat.le_of_ble_eq_true rfl⟩ (wg_11 g _ _) rfl rfl rfl (Nat.le_of_ble_eq_true rfl) dL_law_650 rfl (fun r2 M1 h => ?_)
  refine j_icmp_eq (tgt := 1293) (pc' := 656) hκ dL_law_653 (by decide) rfl (fun _ => ?_) (fun c9 => absurd h.1 c9)
  exact hrec _ _ h.2
theorem wm_17_18 : Cond.methodLink RL 66 yX9_dark ∈ wAll := inr_17 (List.mem_of_getElem? (i := 18) rfl)
theorem wm_17_19 : Cond.instanceMethod yX9_dark ∈ wAll := inr_17 (List.mem_of_getElem? (i := 19) rfl)
theorem wm_17_20 : Cond.selects RX9 yX9_dark yX9_dark ∈ wAll := inr_17 (List.mem_of_getElem? (i := 20) rfl)
theorem wm_17_21 : Cond.code yX9_dark cX9_dark 3 (some .int) ∈ wAll := inr_17 (List.mem_of_getElem? (i := 21) rfl)
theorem hqV_X9_dark : yX9_dark.cls = RX9 ∧ yX9_dark.cls ≠ "java/lang/invoke/MethodHandle" ∧ yX9_dark.cls ≠ "java/lang/invoke/VarHandle" ∧ (parseMethodDescriptor yX9_dark.desc).map (fun d => d.parameters.length) = some 2 := by decide +kernel
theorem wm_18_9 : Cond.methodLink RL 69 yX10_dark ∈ wAll := inr_18 (List.mem_of_getElem? (i := 9) rfl)
theorem wm_18_10 : Cond.instanceMethod yX10_dark ∈ wAll := inr_18 (List.mem_of_getElem? (i := 10) rfl)
theorem wm_18_11 : Cond.selects RX10 yX10_dark yX10_dark ∈ wAll := inr_18 (List.mem_of_getElem? (i := 11) rfl)
theorem wm_18_12 : Cond.code yX10_dark cX10_dark 3 (some .int) ∈ wAll := inr_18 (List.mem_of_getElem? (i := 12) rfl)
theorem hqV_X10_dark : yX10_dark.cls = RX10 ∧ yX10_dark.cls ≠ "java/lang/invoke/MethodHandle" ∧ yX10_dark.cls ≠ "java/lang/invoke/VarHandle" ∧ (parseMethodDescriptor yX10_dark.desc).map (fun d => d.parameters.length) = some 2 := by decide +kernel
set_option maxHeartbeats 4000000 in
set_option maxRecDepth 100000 in
theorem law_dark {κ : Cx} {g : Gx} (hκ : CF κ g RL cL_law wAll 4 room_1) {b L : Nat} {xs : Nat → Int32} (hsc : SC κ b L xs) {Inv : ST → ST → Prop} {X M : ST} {l3 : Int32} (hv1 : vp_in (l3 + 1) L) (hv2 : vp_in (l3 + 2) L) (hv3 : vp_in (l3 + 3) L) (hv4 : vp_in (l3 + 4) L) (h : ∀ z : Int32, bz z → wp_LR_dark X (xs (l3 + 1).toNatClampNeg) z (fun r X1 => wp_m_dark M (xs (l3 + 1).toNatClampNeg) z (fun q M1 => r = q ∧ Inv X1 M1))) (hrec : ∀ X M, Inv X M → Jw κ g 4 X M [(0, .ref b), (1, .ref (g.2.1 0)), (2, .ref (g.2.1 11)), (3, .int l3)] 1293 []) : Jw κ g 4 X M [(0, .ref b), (1, .ref (g.2.1 0)), (2, .ref (g.2.1 11)), (3, .int l3)] 658 [] := by
  refine j_aload_n (pc' := 659) hκ 1 rfl rfl dL_law_658 rfl ?_
  refine j_aload_n (pc' := 660) hκ 0 rfl rfl dL_law_659 rfl ?_
  refine j_iload_n (pc' := 661) hκ 3 rfl rfl dL_law_660 rfl ?_
  refine j_iconst (pc' := 662) (v := 1) hκ (by decide) dL_law_661 rfl ?_
  refine j_iadd (pc' := 663) hκ dL_law_662 rfl ?_
  refine j_sld (pc' := 664) hκ hsc hv1 dL_law_663 rfl ?_
  refine j_aload_n (pc' := 665) hκ 0 rfl rfl dL_law_664 rfl ?_
  refine j_iload_n (pc' := 666) hκ 3 rfl rfl dL_law_665 rfl ?_
  refine j_iconst (pc' := 667) (v := 2) hκ (by decide) dL_law_666 rfl ?_
  refine j_iadd (pc' := 668) hκ dL_law_667 rfl ?_
  refine j_sld (pc' := 669) hκ hsc hv2 dL_law_668 rfl ?_
  refine j_if_eq (tgt := 676) (pc' := 672) hκ dL_law_669 (by decide) rfl (fun c669 => ?_) (fun c669 => ?_)
  · replace h := h 0 (Or.inl rfl)
    refine j_iconst (pc' := 677) (v := 0) hκ (by decide) dL_law_676 rfl ?_
    refine jx_callVi (pc' := 680) hκ (c_LR_dark (dg hκ) h) rfl rfl rfl (gVa wm_17_18 wm_17_19 wm_17_20 wm_1_2 wm_17_21) hqV_X9_dark ⟨Nat.le_of_ble_eq_true rfl, Nat.le_of_ble_eq_true rfl⟩ (wg_0 g _ _) rfl rfl rfl (Nat.le_of_ble_eq_true rfl) dL_law_677 rfl (fun r1 X1 h => ?_)
    refine j_aload_n (pc' := 681) hκ 2 rfl rfl dL_law_680 rfl ?_
    refine j_aload_n (pc' := 682) hκ 0 rfl rfl dL_law_681 rfl ?_
    refine j_iload_n (pc' := 683) hκ 3 rfl rfl dL_law_682 rfl ?_
    refine j_iconst (pc' := 684) (v := 1) hκ (by decide) dL_law_683 rfl ?_
    refine j_iadd (pc' := 685) hκ dL_law_684 rfl ?_
    refine j_sld (pc' := 686) hκ hsc hv1 dL_law_685 rfl ?_
    refine j_aload_n (pc' := 687) hκ 0 rfl rfl dL_law_686 rfl ?_
    refine j_iload_n (pc' := 688) hκ 3 rfl rfl dL_law_687 rfl ?_
    refine j_iconst (pc' := 689) (v := 2) hκ (by decide) dL_law_688 rfl ?_
    refine j_iadd (pc' := 690) hκ dL_law_689 rfl ?_
    refine j_sld (pc' := 691) hκ hsc hv2 dL_law_690 rfl ?_
    refine j_if_eq (tgt := 698) (pc' := 694) hκ dL_law_691 (by decide) rfl (fun _ => ?_) (fun c9 => absurd c669 c9)
    refine j_iconst (pc' := 699) (v := 0) hκ (by decide) dL_law_698 rfl ?_
    refine jm_callVi (pc' := 702) hκ (c_m_dark (dg hκ) h) rfl rfl rfl (gVa wm_18_9 wm_18_10 wm_18_11 wm_1_5 wm_18_12) hqV_X10_dark ⟨Nat.le_of_ble_eq_true rfl, Nat.le_of_ble_eq_true rfl⟩ (wg_11 g _ _) rfl rfl rfl (Nat.le_of_ble_eq_true rfl) dL_law_699 rfl (fun r2 M1 h => ?_)
    refine j_icmp_eq (tgt := 1293) (pc' := 705) hκ dL_law_702 (by decide) rfl (fun _ => ?_) (fun c9 => absurd h.1 c9)
    exact hrec _ _ h.2
  · replace h := h 1 (Or.inr rfl)
    refine j_iconst (pc' := 673) (v := 1) hκ (by decide) dL_law_672 rfl ?_
    refine j_goto (pc' := 677) hκ (by decide) dL_law_673 ?_
    refine jx_callVi (pc' := 680) hκ (c_LR_dark (dg hκ) h) rfl rfl rfl (gVa wm_17_18 wm_17_19 wm_17_20 wm_1_2 wm_17_21) hqV_X9_dark ⟨Nat.le_of_ble_eq_true rfl, Nat.le_of_ble_eq_true rfl⟩ (wg_0 g _ _) rfl rfl rfl (Nat.le_of_ble_eq_true rfl) dL_law_677 rfl (fun r1 X1 h => ?_)
    refine j_aload_n (pc' := 681) hκ 2 rfl rfl dL_law_680 rfl ?_
    refine j_aload_n (pc' := 682) hκ 0 rfl rfl dL_law_681 rfl ?_
    refine j_iload_n (pc' := 683) hκ 3 rfl rfl dL_law_682 rfl ?_
    refine j_iconst (pc' := 684) (v := 1) hκ (by decide) dL_law_683 rfl ?_
    refine j_iadd (pc' := 685) hκ dL_law_684 rfl ?_
    refine j_sld (pc' := 686) hκ hsc hv1 dL_law_685 rfl ?_
    refine j_aload_n (pc' := 687) hκ 0 rfl rfl dL_law_686 rfl ?_
    refine j_iload_n (pc' := 688) hκ 3 rfl rfl dL_law_687 rfl ?_
    refine j_iconst (pc' := 689) (v := 2) hκ (by decide) dL_law_688 rfl ?_
    refine j_iadd (pc' := 690) hκ dL_law_689 rfl ?_
    refine j_sld (pc' := 691) hκ hsc hv2 dL_law_690 rfl ?_
    refine j_if_eq (tgt := 698) (pc' := 694) hκ dL_law_691 (by decide) rfl (fun c9 => absurd c9 c669) (fun _ => ?_)
    refine j_iconst (pc' := 695) (v := 1) hκ (by decide) dL_law_694 rfl ?_
    refine j_goto (pc' := 699) hκ (by decide) dL_law_695 ?_
    refine jm_callVi (pc' := 702) hκ (c_m_dark (dg hκ) h) rfl rfl rfl (gVa wm_18_9 wm_18_10 wm_18_11 wm_1_5 wm_18_12) hqV_X10_dark ⟨Nat.le_of_ble_eq_true rfl, Nat.le_of_ble_eq_true rfl⟩ (wg_11 g _ _) rfl rfl rfl (Nat.le_of_ble_eq_true rfl) dL_law_699 rfl (fun r2 M1 h => ?_)
    refine j_icmp_eq (tgt := 1293) (pc' := 705) hκ dL_law_702 (by decide) rfl (fun _ => ?_) (fun c9 => absurd h.1 c9)
    exact hrec _ _ h.2
theorem wm_18_13 : Cond.methodLink RL 70 yX9_twin ∈ wAll := inr_18 (List.mem_of_getElem? (i := 13) rfl)
theorem wm_18_14 : Cond.instanceMethod yX9_twin ∈ wAll := inr_18 (List.mem_of_getElem? (i := 14) rfl)
theorem wm_18_15 : Cond.selects RX9 yX9_twin yX9_twin ∈ wAll := inr_18 (List.mem_of_getElem? (i := 15) rfl)
theorem wm_18_16 : Cond.code yX9_twin cX9_twin 2 (some .int) ∈ wAll := inr_18 (List.mem_of_getElem? (i := 16) rfl)
theorem hqV_X9_twin : yX9_twin.cls = RX9 ∧ yX9_twin.cls ≠ "java/lang/invoke/MethodHandle" ∧ yX9_twin.cls ≠ "java/lang/invoke/VarHandle" ∧ (parseMethodDescriptor yX9_twin.desc).map (fun d => d.parameters.length) = some 1 := by decide +kernel
theorem wm_19_13 : Cond.methodLink RL 73 yX10_twin ∈ wAll := inr_19 (List.mem_of_getElem? (i := 13) rfl)
theorem wm_19_14 : Cond.instanceMethod yX10_twin ∈ wAll := inr_19 (List.mem_of_getElem? (i := 14) rfl)
theorem wm_19_15 : Cond.selects RX10 yX10_twin yX10_twin ∈ wAll := inr_19 (List.mem_of_getElem? (i := 15) rfl)
theorem wm_19_16 : Cond.code yX10_twin cX10_twin 2 (some .int) ∈ wAll := inr_19 (List.mem_of_getElem? (i := 16) rfl)
theorem hqV_X10_twin : yX10_twin.cls = RX10 ∧ yX10_twin.cls ≠ "java/lang/invoke/MethodHandle" ∧ yX10_twin.cls ≠ "java/lang/invoke/VarHandle" ∧ (parseMethodDescriptor yX10_twin.desc).map (fun d => d.parameters.length) = some 1 := by decide +kernel
set_option maxHeartbeats 4000000 in
set_option maxRecDepth 100000 in
theorem law_twin {κ : Cx} {g : Gx} (hκ : CF κ g RL cL_law wAll 4 room_1) {b L : Nat} {xs : Nat → Int32} (hsc : SC κ b L xs) {Inv : ST → ST → Prop} {X M : ST} {l3 : Int32} (hv1 : vp_in (l3 + 1) L) (hv2 : vp_in (l3 + 2) L) (hv3 : vp_in (l3 + 3) L) (hv4 : vp_in (l3 + 4) L) (h : wp_LR_twin X (xs (l3 + 1).toNatClampNeg) (fun r X1 => wp_m_twin M (xs (l3 + 1).toNatClampNeg) (fun q M1 => r = q ∧ Inv X1 M1))) (hrec : ∀ X M, Inv X M → Jw κ g 4 X M [(0, .ref b), (1, .ref (g.2.1 0)), (2, .ref (g.2.1 11)), (3, .int l3)] 1293 []) : Jw κ g 4 X M [(0, .ref b), (1, .ref (g.2.1 0)), (2, .ref (g.2.1 11)), (3, .int l3)] 707 [] := by
  refine j_aload_n (pc' := 708) hκ 1 rfl rfl dL_law_707 rfl ?_
  refine j_aload_n (pc' := 709) hκ 0 rfl rfl dL_law_708 rfl ?_
  refine j_iload_n (pc' := 710) hκ 3 rfl rfl dL_law_709 rfl ?_
  refine j_iconst (pc' := 711) (v := 1) hκ (by decide) dL_law_710 rfl ?_
  refine j_iadd (pc' := 712) hκ dL_law_711 rfl ?_
  refine j_sld (pc' := 713) hκ hsc hv1 dL_law_712 rfl ?_
  refine jx_callVi (pc' := 716) hκ (c_LR_twin (dg hκ) h) rfl rfl rfl (gVa wm_18_13 wm_18_14 wm_18_15 wm_1_2 wm_18_16) hqV_X9_twin ⟨Nat.le_of_ble_eq_true rfl, Nat.le_of_ble_eq_true rfl⟩ (wg_0 g _ _) rfl rfl rfl (Nat.le_of_ble_eq_true rfl) dL_law_713 rfl (fun r1 X1 h => ?_)
  refine j_aload_n (pc' := 717) hκ 2 rfl rfl dL_law_716 rfl ?_
  refine j_aload_n (pc' := 718) hκ 0 rfl rfl dL_law_717 rfl ?_
  refine j_iload_n (pc' := 719) hκ 3 rfl rfl dL_law_718 rfl ?_
  refine j_iconst (pc' := 720) (v := 1) hκ (by decide) dL_law_719 rfl ?_
  refine j_iadd (pc' := 721) hκ dL_law_720 rfl ?_
  refine j_sld (pc' := 722) hκ hsc hv1 dL_law_721 rfl ?_
  refine jm_callVi (pc' := 725) hκ (c_m_twin (dg hκ) h) rfl rfl rfl (gVa wm_19_13 wm_19_14 wm_19_15 wm_1_5 wm_19_16) hqV_X10_twin ⟨Nat.le_of_ble_eq_true rfl, Nat.le_of_ble_eq_true rfl⟩ (wg_11 g _ _) rfl rfl rfl (Nat.le_of_ble_eq_true rfl) dL_law_722 rfl (fun r2 M1 h => ?_)
  refine j_icmp_eq (tgt := 1293) (pc' := 728) hκ dL_law_725 (by decide) rfl (fun _ => ?_) (fun c9 => absurd h.1 c9)
  exact hrec _ _ h.2
theorem wm_20_1 : Cond.methodLink RL 74 yX9_of ∈ wAll := inr_20 (List.mem_of_getElem? (i := 1) rfl)
theorem wm_20_2 : Cond.instanceMethod yX9_of ∈ wAll := inr_20 (List.mem_of_getElem? (i := 2) rfl)
theorem wm_20_3 : Cond.selects RX9 yX9_of yX9_of ∈ wAll := inr_20 (List.mem_of_getElem? (i := 3) rfl)
theorem wm_20_4 : Cond.code yX9_of cX9_of 3 (some .int) ∈ wAll := inr_20 (List.mem_of_getElem? (i := 4) rfl)
theorem hqV_X9_of : yX9_of.cls = RX9 ∧ yX9_of.cls ≠ "java/lang/invoke/MethodHandle" ∧ yX9_of.cls ≠ "java/lang/invoke/VarHandle" ∧ (parseMethodDescriptor yX9_of.desc).map (fun d => d.parameters.length) = some 2 := by decide +kernel
theorem wm_20_10 : Cond.methodLink RL 77 yX10_of ∈ wAll := inr_20 (List.mem_of_getElem? (i := 10) rfl)
theorem wm_20_11 : Cond.instanceMethod yX10_of ∈ wAll := inr_20 (List.mem_of_getElem? (i := 11) rfl)
theorem wm_20_12 : Cond.selects RX10 yX10_of yX10_of ∈ wAll := inr_20 (List.mem_of_getElem? (i := 12) rfl)
theorem wm_20_13 : Cond.code yX10_of cX10_of 3 (some .int) ∈ wAll := inr_20 (List.mem_of_getElem? (i := 13) rfl)
theorem hqV_X10_of : yX10_of.cls = RX10 ∧ yX10_of.cls ≠ "java/lang/invoke/MethodHandle" ∧ yX10_of.cls ≠ "java/lang/invoke/VarHandle" ∧ (parseMethodDescriptor yX10_of.desc).map (fun d => d.parameters.length) = some 2 := by decide +kernel
set_option maxHeartbeats 4000000 in
set_option maxRecDepth 100000 in
theorem law_of {κ : Cx} {g : Gx} (hκ : CF κ g RL cL_law wAll 4 room_1) {b L : Nat} {xs : Nat → Int32} (hsc : SC κ b L xs) {Inv : ST → ST → Prop} {X M : ST} {l3 : Int32} (hv1 : vp_in (l3 + 1) L) (hv2 : vp_in (l3 + 2) L) (hv3 : vp_in (l3 + 3) L) (hv4 : vp_in (l3 + 4) L) (h : wp_LR_of X (xs (l3 + 1).toNatClampNeg) (xs (l3 + 2).toNatClampNeg) (fun r X1 => wp_m_of M (xs (l3 + 1).toNatClampNeg) (xs (l3 + 2).toNatClampNeg) (fun q M1 => r = q ∧ Inv X1 M1))) (hrec : ∀ X M, Inv X M → Jw κ g 4 X M [(0, .ref b), (1, .ref (g.2.1 0)), (2, .ref (g.2.1 11)), (3, .int l3)] 1293 []) : Jw κ g 4 X M [(0, .ref b), (1, .ref (g.2.1 0)), (2, .ref (g.2.1 11)), (3, .int l3)] 730 [] := by
  refine j_aload_n (pc' := 731) hκ 1 rfl rfl dL_law_730 rfl ?_
  refine j_aload_n (pc' := 732) hκ 0 rfl rfl dL_law_731 rfl ?_
  refine j_iload_n (pc' := 733) hκ 3 rfl rfl dL_law_732 rfl ?_
  refine j_iconst (pc' := 734) (v := 1) hκ (by decide) dL_law_733 rfl ?_
  refine j_iadd (pc' := 735) hκ dL_law_734 rfl ?_
  refine j_sld (pc' := 736) hκ hsc hv1 dL_law_735 rfl ?_
  refine j_aload_n (pc' := 737) hκ 0 rfl rfl dL_law_736 rfl ?_
  refine j_iload_n (pc' := 738) hκ 3 rfl rfl dL_law_737 rfl ?_
  refine j_iconst (pc' := 739) (v := 2) hκ (by decide) dL_law_738 rfl ?_
  refine j_iadd (pc' := 740) hκ dL_law_739 rfl ?_
  refine j_sld (pc' := 741) hκ hsc hv2 dL_law_740 rfl ?_
  refine jx_callVi (pc' := 744) hκ (c_LR_of (dg hκ) h) rfl rfl rfl (gVa wm_20_1 wm_20_2 wm_20_3 wm_1_2 wm_20_4) hqV_X9_of ⟨Nat.le_of_ble_eq_true rfl, Nat.le_of_ble_eq_true rfl⟩ (wg_0 g _ _) rfl rfl rfl (Nat.le_of_ble_eq_true rfl) dL_law_741 rfl (fun r1 X1 h => ?_)
  refine j_aload_n (pc' := 745) hκ 2 rfl rfl dL_law_744 rfl ?_
  refine j_aload_n (pc' := 746) hκ 0 rfl rfl dL_law_745 rfl ?_
  refine j_iload_n (pc' := 747) hκ 3 rfl rfl dL_law_746 rfl ?_
  refine j_iconst (pc' := 748) (v := 1) hκ (by decide) dL_law_747 rfl ?_
  refine j_iadd (pc' := 749) hκ dL_law_748 rfl ?_
  refine j_sld (pc' := 750) hκ hsc hv1 dL_law_749 rfl ?_
  refine j_aload_n (pc' := 751) hκ 0 rfl rfl dL_law_750 rfl ?_
  refine j_iload_n (pc' := 752) hκ 3 rfl rfl dL_law_751 rfl ?_
  refine j_iconst (pc' := 753) (v := 2) hκ (by decide) dL_law_752 rfl ?_
  refine j_iadd (pc' := 754) hκ dL_law_753 rfl ?_
  refine j_sld (pc' := 755) hκ hsc hv2 dL_law_754 rfl ?_
  refine jm_callVi (pc' := 758) hκ (c_m_of (dg hκ) h) rfl rfl rfl (gVa wm_20_10 wm_20_11 wm_20_12 wm_1_5 wm_20_13) hqV_X10_of ⟨Nat.le_of_ble_eq_true rfl, Nat.le_of_ble_eq_true rfl⟩ (wg_11 g _ _) rfl rfl rfl (Nat.le_of_ble_eq_true rfl) dL_law_755 rfl (fun r2 M1 h => ?_)
  refine j_icmp_eq (tgt := 1293) (pc' := 761) hκ dL_law_758 (by decide) rfl (fun _ => ?_) (fun c9 => absurd h.1 c9)
  exact hrec _ _ h.2
theorem wm_20_15 : Cond.methodLink RL 78 yX9_many ∈ wAll := inr_20 (List.mem_of_getElem? (i := 15) rfl)
theorem wm_20_16 : Cond.instanceMethod yX9_many ∈ wAll := inr_20 (List.mem_of_getElem? (i := 16) rfl)
theorem wm_20_17 : Cond.selects RX9 yX9_many yX9_many ∈ wAll := inr_20 (List.mem_of_getElem? (i := 17) rfl)
theorem wm_20_18 : Cond.code yX9_many cX9_many 2 (some .int) ∈ wAll := inr_20 (List.mem_of_getElem? (i := 18) rfl)
theorem hqV_X9_many : yX9_many.cls = RX9 ∧ yX9_many.cls ≠ "java/lang/invoke/MethodHandle" ∧ yX9_many.cls ≠ "java/lang/invoke/VarHandle" ∧ (parseMethodDescriptor yX9_many.desc).map (fun d => d.parameters.length) = some 1 := by decide +kernel
theorem wm_21_11 : Cond.methodLink RL 81 yX10_many ∈ wAll := inr_21 (List.mem_of_getElem? (i := 11) rfl)
theorem wm_21_12 : Cond.instanceMethod yX10_many ∈ wAll := inr_21 (List.mem_of_getElem? (i := 12) rfl)
theorem wm_21_13 : Cond.selects RX10 yX10_many yX10_many ∈ wAll := inr_21 (List.mem_of_getElem? (i := 13) rfl)
theorem wm_21_14 : Cond.code yX10_many cX10_many 4 (some .int) ∈ wAll := inr_21 (List.mem_of_getElem? (i := 14) rfl)
theorem hqV_X10_many : yX10_many.cls = RX10 ∧ yX10_many.cls ≠ "java/lang/invoke/MethodHandle" ∧ yX10_many.cls ≠ "java/lang/invoke/VarHandle" ∧ (parseMethodDescriptor yX10_many.desc).map (fun d => d.parameters.length) = some 1 := by decide +kernel
set_option maxHeartbeats 4000000 in
set_option maxRecDepth 100000 in
theorem law_many {κ : Cx} {g : Gx} (hκ : CF κ g RL cL_law wAll 4 room_1) {b L : Nat} {xs : Nat → Int32} (hsc : SC κ b L xs) {Inv : ST → ST → Prop} {X M : ST} {l3 : Int32} (hv1 : vp_in (l3 + 1) L) (hv2 : vp_in (l3 + 2) L) (hv3 : vp_in (l3 + 3) L) (hv4 : vp_in (l3 + 4) L) (h : wp_LR_many X (xs (l3 + 1).toNatClampNeg) (fun r X1 => wp_m_many M (xs (l3 + 1).toNatClampNeg) (fun q M1 => r = q ∧ Inv X1 M1))) (hrec : ∀ X M, Inv X M → Jw κ g 4 X M [(0, .ref b), (1, .ref (g.2.1 0)), (2, .ref (g.2.1 11)), (3, .int l3)] 1293 []) : Jw κ g 4 X M [(0, .ref b), (1, .ref (g.2.1 0)), (2, .ref (g.2.1 11)), (3, .int l3)] 763 [] := by
  refine j_aload_n (pc' := 764) hκ 1 rfl rfl dL_law_763 rfl ?_
  refine j_aload_n (pc' := 765) hκ 0 rfl rfl dL_law_764 rfl ?_
  refine j_iload_n (pc' := 766) hκ 3 rfl rfl dL_law_765 rfl ?_
  refine j_iconst (pc' := 767) (v := 1) hκ (by decide) dL_law_766 rfl ?_
  refine j_iadd (pc' := 768) hκ dL_law_767 rfl ?_
  refine j_sld (pc' := 769) hκ hsc hv1 dL_law_768 rfl ?_
  refine jx_callVi (pc' := 772) hκ (c_LR_many (dg hκ) h) rfl rfl rfl (gVa wm_20_15 wm_20_16 wm_20_17 wm_1_2 wm_20_18) hqV_X9_many ⟨Nat.le_of_ble_eq_true rfl, Nat.le_of_ble_eq_true rfl⟩ (wg_0 g _ _) rfl rfl rfl (Nat.le_of_ble_eq_true rfl) dL_law_769 rfl (fun r1 X1 h => ?_)
  refine j_aload_n (pc' := 773) hκ 2 rfl rfl dL_law_772 rfl ?_
  refine j_aload_n (pc' := 774) hκ 0 rfl rfl dL_law_773 rfl ?_
  refine j_iload_n (pc' := 775) hκ 3 rfl rfl dL_law_774 rfl ?_
  refine j_iconst (pc' := 776) (v := 1) hκ (by decide) dL_law_775 rfl ?_
  refine j_iadd (pc' := 777) hκ dL_law_776 rfl ?_
  refine j_sld (pc' := 778) hκ hsc hv1 dL_law_777 rfl ?_
  refine jm_callVi (pc' := 781) hκ (c_m_many (dg hκ) h) rfl rfl rfl (gVa wm_21_11 wm_21_12 wm_21_13 wm_1_5 wm_21_14) hqV_X10_many ⟨Nat.le_of_ble_eq_true rfl, Nat.le_of_ble_eq_true rfl⟩ (wg_11 g _ _) rfl rfl rfl (Nat.le_of_ble_eq_true rfl) dL_law_778 rfl (fun r2 M1 h => ?_)
  refine j_icmp_eq (tgt := 1293) (pc' := 784) hκ dL_law_781 (by decide) rfl (fun _ => ?_) (fun c9 => absurd h.1 c9)
  exact hrec _ _ h.2
theorem wm_21_20 : Cond.methodLink RL 82 yX9_least ∈ wAll := inr_21 (List.mem_of_getElem? (i := 20) rfl)
theorem wm_21_21 : Cond.instanceMethod yX9_least ∈ wAll := inr_21 (List.mem_of_getElem? (i := 21) rfl)
theorem wm_21_22 : Cond.selects RX9 yX9_least yX9_least ∈ wAll := inr_21 (List.mem_of_getElem? (i := 22) rfl)
theorem wm_21_23 : Cond.code yX9_least cX9_least 1 (some .int) ∈ wAll := inr_21 (List.mem_of_getElem? (i := 23) rfl)
theorem hqV_X9_least : yX9_least.cls = RX9 ∧ yX9_least.cls ≠ "java/lang/invoke/MethodHandle" ∧ yX9_least.cls ≠ "java/lang/invoke/VarHandle" ∧ (parseMethodDescriptor yX9_least.desc).map (fun d => d.parameters.length) = some 0 := by decide +kernel
theorem wm_24_1 : Cond.methodLink RL 86 yX10_least ∈ wAll := inr_24 (List.mem_of_getElem? (i := 1) rfl)
theorem wm_24_2 : Cond.instanceMethod yX10_least ∈ wAll := inr_24 (List.mem_of_getElem? (i := 2) rfl)
theorem wm_24_3 : Cond.selects RX10 yX10_least yX10_least ∈ wAll := inr_24 (List.mem_of_getElem? (i := 3) rfl)
theorem wm_24_4 : Cond.code yX10_least cX10_least 3 (some .int) ∈ wAll := inr_24 (List.mem_of_getElem? (i := 4) rfl)
theorem hqV_X10_least : yX10_least.cls = RX10 ∧ yX10_least.cls ≠ "java/lang/invoke/MethodHandle" ∧ yX10_least.cls ≠ "java/lang/invoke/VarHandle" ∧ (parseMethodDescriptor yX10_least.desc).map (fun d => d.parameters.length) = some 0 := by decide +kernel
set_option maxHeartbeats 4000000 in
set_option maxRecDepth 100000 in
theorem law_least {κ : Cx} {g : Gx} (hκ : CF κ g RL cL_law wAll 4 room_1) {b L : Nat} {xs : Nat → Int32} (hsc : SC κ b L xs) {Inv : ST → ST → Prop} {X M : ST} {l3 : Int32} (hv1 : vp_in (l3 + 1) L) (hv2 : vp_in (l3 + 2) L) (hv3 : vp_in (l3 + 3) L) (hv4 : vp_in (l3 + 4) L) (h : wp_LR_least X (fun r X1 => wp_m_least M (fun q M1 => r = q ∧ Inv X1 M1))) (hrec : ∀ X M, Inv X M → Jw κ g 4 X M [(0, .ref b), (1, .ref (g.2.1 0)), (2, .ref (g.2.1 11)), (3, .int l3)] 1293 []) : Jw κ g 4 X M [(0, .ref b), (1, .ref (g.2.1 0)), (2, .ref (g.2.1 11)), (3, .int l3)] 786 [] := by
  refine j_aload_n (pc' := 787) hκ 1 rfl rfl dL_law_786 rfl ?_
  refine jx_callVi (pc' := 790) hκ (c_LR_least (dg hκ) h) rfl rfl rfl (gVa wm_21_20 wm_21_21 wm_21_22 wm_1_2 wm_21_23) hqV_X9_least ⟨Nat.le_of_ble_eq_true rfl, Nat.le_of_ble_eq_true rfl⟩ (wg_0 g _ _) rfl rfl rfl (Nat.le_of_ble_eq_true rfl) dL_law_787 rfl (fun r1 X1 h => ?_)
  refine j_aload_n (pc' := 791) hκ 2 rfl rfl dL_law_790 rfl ?_
  refine jm_callVi (pc' := 794) hκ (c_m_least (dg hκ) h) rfl rfl rfl (gVa wm_24_1 wm_24_2 wm_24_3 wm_1_5 wm_24_4) hqV_X10_least ⟨Nat.le_of_ble_eq_true rfl, Nat.le_of_ble_eq_true rfl⟩ (wg_11 g _ _) rfl rfl rfl (Nat.le_of_ble_eq_true rfl) dL_law_791 rfl (fun r2 M1 h => ?_)
  refine j_icmp_eq (tgt := 1293) (pc' := 797) hκ dL_law_794 (by decide) rfl (fun _ => ?_) (fun c9 => absurd h.1 c9)
  exact hrec _ _ h.2
theorem wm_25_11 : Cond.methodLink RL 87 yX9_second ∈ wAll := inr_25 (List.mem_of_getElem? (i := 11) rfl)
theorem wm_25_12 : Cond.instanceMethod yX9_second ∈ wAll := inr_25 (List.mem_of_getElem? (i := 12) rfl)
theorem wm_25_13 : Cond.selects RX9 yX9_second yX9_second ∈ wAll := inr_25 (List.mem_of_getElem? (i := 13) rfl)
theorem wm_25_14 : Cond.code yX9_second cX9_second 1 (some .int) ∈ wAll := inr_25 (List.mem_of_getElem? (i := 14) rfl)
theorem hqV_X9_second : yX9_second.cls = RX9 ∧ yX9_second.cls ≠ "java/lang/invoke/MethodHandle" ∧ yX9_second.cls ≠ "java/lang/invoke/VarHandle" ∧ (parseMethodDescriptor yX9_second.desc).map (fun d => d.parameters.length) = some 0 := by decide +kernel
theorem wm_26_8 : Cond.methodLink RL 90 yX10_second ∈ wAll := inr_26 (List.mem_of_getElem? (i := 8) rfl)
theorem wm_26_9 : Cond.instanceMethod yX10_second ∈ wAll := inr_26 (List.mem_of_getElem? (i := 9) rfl)
theorem wm_26_10 : Cond.selects RX10 yX10_second yX10_second ∈ wAll := inr_26 (List.mem_of_getElem? (i := 10) rfl)
theorem wm_26_11 : Cond.code yX10_second cX10_second 2 (some .int) ∈ wAll := inr_26 (List.mem_of_getElem? (i := 11) rfl)
theorem hqV_X10_second : yX10_second.cls = RX10 ∧ yX10_second.cls ≠ "java/lang/invoke/MethodHandle" ∧ yX10_second.cls ≠ "java/lang/invoke/VarHandle" ∧ (parseMethodDescriptor yX10_second.desc).map (fun d => d.parameters.length) = some 0 := by decide +kernel
set_option maxHeartbeats 4000000 in
set_option maxRecDepth 100000 in
theorem law_second {κ : Cx} {g : Gx} (hκ : CF κ g RL cL_law wAll 4 room_1) {b L : Nat} {xs : Nat → Int32} (hsc : SC κ b L xs) {Inv : ST → ST → Prop} {X M : ST} {l3 : Int32} (hv1 : vp_in (l3 + 1) L) (hv2 : vp_in (l3 + 2) L) (hv3 : vp_in (l3 + 3) L) (hv4 : vp_in (l3 + 4) L) (h : wp_LR_second X (fun r X1 => wp_m_second M (fun q M1 => r = q ∧ Inv X1 M1))) (hrec : ∀ X M, Inv X M → Jw κ g 4 X M [(0, .ref b), (1, .ref (g.2.1 0)), (2, .ref (g.2.1 11)), (3, .int l3)] 1293 []) : Jw κ g 4 X M [(0, .ref b), (1, .ref (g.2.1 0)), (2, .ref (g.2.1 11)), (3, .int l3)] 799 [] := by
  refine j_aload_n (pc' := 800) hκ 1 rfl rfl dL_law_799 rfl ?_
  refine jx_callVi (pc' := 803) hκ (c_LR_second (dg hκ) h) rfl rfl rfl (gVa wm_25_11 wm_25_12 wm_25_13 wm_1_2 wm_25_14) hqV_X9_second ⟨Nat.le_of_ble_eq_true rfl, Nat.le_of_ble_eq_true rfl⟩ (wg_0 g _ _) rfl rfl rfl (Nat.le_of_ble_eq_true rfl) dL_law_800 rfl (fun r1 X1 h => ?_)
  refine j_aload_n (pc' := 804) hκ 2 rfl rfl dL_law_803 rfl ?_
  refine jm_callVi (pc' := 807) hκ (c_m_second (dg hκ) h) rfl rfl rfl (gVa wm_26_8 wm_26_9 wm_26_10 wm_1_5 wm_26_11) hqV_X10_second ⟨Nat.le_of_ble_eq_true rfl, Nat.le_of_ble_eq_true rfl⟩ (wg_11 g _ _) rfl rfl rfl (Nat.le_of_ble_eq_true rfl) dL_law_804 rfl (fun r2 M1 h => ?_)
  refine j_icmp_eq (tgt := 1293) (pc' := 810) hκ dL_law_807 (by decide) rfl (fun _ => ?_) (fun c9 => absurd h.1 c9)
  exact hrec _ _ h.2
theorem wm_26_20 : Cond.methodLink RL 91 yX9_with ∈ wAll := inr_26 (List.mem_of_getElem? (i := 20) rfl)
theorem wm_26_21 : Cond.instanceMethod yX9_with ∈ wAll := inr_26 (List.mem_of_getElem? (i := 21) rfl)
theorem wm_26_22 : Cond.selects RX9 yX9_with yX9_with ∈ wAll := inr_26 (List.mem_of_getElem? (i := 22) rfl)
theorem wm_26_23 : Cond.code yX9_with cX9_with 4 (some .int) ∈ wAll := inr_26 (List.mem_of_getElem? (i := 23) rfl)
theorem hqV_X9_with : yX9_with.cls = RX9 ∧ yX9_with.cls ≠ "java/lang/invoke/MethodHandle" ∧ yX9_with.cls ≠ "java/lang/invoke/VarHandle" ∧ (parseMethodDescriptor yX9_with.desc).map (fun d => d.parameters.length) = some 3 := by decide +kernel
theorem wm_27_4 : Cond.methodLink RL 95 yX10_with ∈ wAll := inr_27 (List.mem_of_getElem? (i := 4) rfl)
theorem wm_27_5 : Cond.instanceMethod yX10_with ∈ wAll := inr_27 (List.mem_of_getElem? (i := 5) rfl)
theorem wm_27_6 : Cond.selects RX10 yX10_with yX10_with ∈ wAll := inr_27 (List.mem_of_getElem? (i := 6) rfl)
theorem wm_27_7 : Cond.code yX10_with cX10_with 5 (some .int) ∈ wAll := inr_27 (List.mem_of_getElem? (i := 7) rfl)
theorem hqV_X10_with : yX10_with.cls = RX10 ∧ yX10_with.cls ≠ "java/lang/invoke/MethodHandle" ∧ yX10_with.cls ≠ "java/lang/invoke/VarHandle" ∧ (parseMethodDescriptor yX10_with.desc).map (fun d => d.parameters.length) = some 3 := by decide +kernel
set_option maxHeartbeats 4000000 in
set_option maxRecDepth 100000 in
theorem law_with {κ : Cx} {g : Gx} (hκ : CF κ g RL cL_law wAll 4 room_1) {b L : Nat} {xs : Nat → Int32} (hsc : SC κ b L xs) {Inv : ST → ST → Prop} {X M : ST} {l3 : Int32} (hv1 : vp_in (l3 + 1) L) (hv2 : vp_in (l3 + 2) L) (hv3 : vp_in (l3 + 3) L) (hv4 : vp_in (l3 + 4) L) (h : ∀ z : Int32, bz z → wp_LR_with X (xs (l3 + 1).toNatClampNeg) (xs (l3 + 2).toNatClampNeg) z (fun r X1 => wp_m_with M (xs (l3 + 1).toNatClampNeg) (xs (l3 + 2).toNatClampNeg) z (fun q M1 => r = q ∧ Inv X1 M1))) (hrec : ∀ X M, Inv X M → Jw κ g 4 X M [(0, .ref b), (1, .ref (g.2.1 0)), (2, .ref (g.2.1 11)), (3, .int l3)] 1293 []) : Jw κ g 4 X M [(0, .ref b), (1, .ref (g.2.1 0)), (2, .ref (g.2.1 11)), (3, .int l3)] 812 [] := by
  refine j_aload_n (pc' := 813) hκ 1 rfl rfl dL_law_812 rfl ?_
  refine j_aload_n (pc' := 814) hκ 0 rfl rfl dL_law_813 rfl ?_
  refine j_iload_n (pc' := 815) hκ 3 rfl rfl dL_law_814 rfl ?_
  refine j_iconst (pc' := 816) (v := 1) hκ (by decide) dL_law_815 rfl ?_
  refine j_iadd (pc' := 817) hκ dL_law_816 rfl ?_
  refine j_sld (pc' := 818) hκ hsc hv1 dL_law_817 rfl ?_
  refine j_aload_n (pc' := 819) hκ 0 rfl rfl dL_law_818 rfl ?_
  refine j_iload_n (pc' := 820) hκ 3 rfl rfl dL_law_819 rfl ?_
  refine j_iconst (pc' := 821) (v := 2) hκ (by decide) dL_law_820 rfl ?_
  refine j_iadd (pc' := 822) hκ dL_law_821 rfl ?_
  refine j_sld (pc' := 823) hκ hsc hv2 dL_law_822 rfl ?_
  refine j_aload_n (pc' := 824) hκ 0 rfl rfl dL_law_823 rfl ?_
  refine j_iload_n (pc' := 825) hκ 3 rfl rfl dL_law_824 rfl ?_
  refine j_iconst (pc' := 826) (v := 3) hκ (by decide) dL_law_825 rfl ?_
  refine j_iadd (pc' := 827) hκ dL_law_826 rfl ?_
  refine j_sld (pc' := 828) hκ hsc hv3 dL_law_827 rfl ?_
  refine j_if_eq (tgt := 835) (pc' := 831) hκ dL_law_828 (by decide) rfl (fun c828 => ?_) (fun c828 => ?_)
  · replace h := h 0 (Or.inl rfl)
    refine j_iconst (pc' := 836) (v := 0) hκ (by decide) dL_law_835 rfl ?_
    refine jx_callVi (pc' := 839) hκ (c_LR_with (dg hκ) h) rfl rfl rfl (gVa wm_26_20 wm_26_21 wm_26_22 wm_1_2 wm_26_23) hqV_X9_with ⟨Nat.le_of_ble_eq_true rfl, Nat.le_of_ble_eq_true rfl⟩ (wg_0 g _ _) rfl rfl rfl (Nat.le_of_ble_eq_true rfl) dL_law_836 rfl (fun r1 X1 h => ?_)
    refine j_aload_n (pc' := 840) hκ 2 rfl rfl dL_law_839 rfl ?_
    refine j_aload_n (pc' := 841) hκ 0 rfl rfl dL_law_840 rfl ?_
    refine j_iload_n (pc' := 842) hκ 3 rfl rfl dL_law_841 rfl ?_
    refine j_iconst (pc' := 843) (v := 1) hκ (by decide) dL_law_842 rfl ?_
    refine j_iadd (pc' := 844) hκ dL_law_843 rfl ?_
    refine j_sld (pc' := 845) hκ hsc hv1 dL_law_844 rfl ?_
    refine j_aload_n (pc' := 846) hκ 0 rfl rfl dL_law_845 rfl ?_
    refine j_iload_n (pc' := 847) hκ 3 rfl rfl dL_law_846 rfl ?_
    refine j_iconst (pc' := 848) (v := 2) hκ (by decide) dL_law_847 rfl ?_
    refine j_iadd (pc' := 849) hκ dL_law_848 rfl ?_
    refine j_sld (pc' := 850) hκ hsc hv2 dL_law_849 rfl ?_
    refine j_aload_n (pc' := 851) hκ 0 rfl rfl dL_law_850 rfl ?_
    refine j_iload_n (pc' := 852) hκ 3 rfl rfl dL_law_851 rfl ?_
    refine j_iconst (pc' := 853) (v := 3) hκ (by decide) dL_law_852 rfl ?_
    refine j_iadd (pc' := 854) hκ dL_law_853 rfl ?_
    refine j_sld (pc' := 855) hκ hsc hv3 dL_law_854 rfl ?_
    refine j_if_eq (tgt := 862) (pc' := 858) hκ dL_law_855 (by decide) rfl (fun _ => ?_) (fun c9 => absurd c828 c9)
    refine j_iconst (pc' := 863) (v := 0) hκ (by decide) dL_law_862 rfl ?_
    refine jm_callVi (pc' := 866) hκ (c_m_with (dg hκ) h) rfl rfl rfl (gVa wm_27_4 wm_27_5 wm_27_6 wm_1_5 wm_27_7) hqV_X10_with ⟨Nat.le_of_ble_eq_true rfl, Nat.le_of_ble_eq_true rfl⟩ (wg_11 g _ _) rfl rfl rfl (Nat.le_of_ble_eq_true rfl) dL_law_863 rfl (fun r2 M1 h => ?_)
    refine j_icmp_eq (tgt := 1293) (pc' := 869) hκ dL_law_866 (by decide) rfl (fun _ => ?_) (fun c9 => absurd h.1 c9)
    exact hrec _ _ h.2
  · replace h := h 1 (Or.inr rfl)
    refine j_iconst (pc' := 832) (v := 1) hκ (by decide) dL_law_831 rfl ?_
    refine j_goto (pc' := 836) hκ (by decide) dL_law_832 ?_
    refine jx_callVi (pc' := 839) hκ (c_LR_with (dg hκ) h) rfl rfl rfl (gVa wm_26_20 wm_26_21 wm_26_22 wm_1_2 wm_26_23) hqV_X9_with ⟨Nat.le_of_ble_eq_true rfl, Nat.le_of_ble_eq_true rfl⟩ (wg_0 g _ _) rfl rfl rfl (Nat.le_of_ble_eq_true rfl) dL_law_836 rfl (fun r1 X1 h => ?_)
    refine j_aload_n (pc' := 840) hκ 2 rfl rfl dL_law_839 rfl ?_
    refine j_aload_n (pc' := 841) hκ 0 rfl rfl dL_law_840 rfl ?_
    refine j_iload_n (pc' := 842) hκ 3 rfl rfl dL_law_841 rfl ?_
    refine j_iconst (pc' := 843) (v := 1) hκ (by decide) dL_law_842 rfl ?_
    refine j_iadd (pc' := 844) hκ dL_law_843 rfl ?_
    refine j_sld (pc' := 845) hκ hsc hv1 dL_law_844 rfl ?_
    refine j_aload_n (pc' := 846) hκ 0 rfl rfl dL_law_845 rfl ?_
    refine j_iload_n (pc' := 847) hκ 3 rfl rfl dL_law_846 rfl ?_
    refine j_iconst (pc' := 848) (v := 2) hκ (by decide) dL_law_847 rfl ?_
    refine j_iadd (pc' := 849) hκ dL_law_848 rfl ?_
    refine j_sld (pc' := 850) hκ hsc hv2 dL_law_849 rfl ?_
    refine j_aload_n (pc' := 851) hκ 0 rfl rfl dL_law_850 rfl ?_
    refine j_iload_n (pc' := 852) hκ 3 rfl rfl dL_law_851 rfl ?_
    refine j_iconst (pc' := 853) (v := 3) hκ (by decide) dL_law_852 rfl ?_
    refine j_iadd (pc' := 854) hκ dL_law_853 rfl ?_
    refine j_sld (pc' := 855) hκ hsc hv3 dL_law_854 rfl ?_
    refine j_if_eq (tgt := 862) (pc' := 858) hκ dL_law_855 (by decide) rfl (fun c9 => absurd c9 c828) (fun _ => ?_)
    refine j_iconst (pc' := 859) (v := 1) hκ (by decide) dL_law_858 rfl ?_
    refine j_goto (pc' := 863) hκ (by decide) dL_law_859 ?_
    refine jm_callVi (pc' := 866) hκ (c_m_with (dg hκ) h) rfl rfl rfl (gVa wm_27_4 wm_27_5 wm_27_6 wm_1_5 wm_27_7) hqV_X10_with ⟨Nat.le_of_ble_eq_true rfl, Nat.le_of_ble_eq_true rfl⟩ (wg_11 g _ _) rfl rfl rfl (Nat.le_of_ble_eq_true rfl) dL_law_863 rfl (fun r2 M1 h => ?_)
    refine j_icmp_eq (tgt := 1293) (pc' := 869) hκ dL_law_866 (by decide) rfl (fun _ => ?_) (fun c9 => absurd h.1 c9)
    exact hrec _ _ h.2
theorem wm_27_12 : Cond.methodLink RL 96 yX9_put ∈ wAll := inr_27 (List.mem_of_getElem? (i := 12) rfl)
theorem wm_27_13 : Cond.instanceMethod yX9_put ∈ wAll := inr_27 (List.mem_of_getElem? (i := 13) rfl)
theorem wm_27_14 : Cond.selects RX9 yX9_put yX9_put ∈ wAll := inr_27 (List.mem_of_getElem? (i := 14) rfl)
theorem wm_27_15 : Cond.code yX9_put cX9_put 2 (some .int) ∈ wAll := inr_27 (List.mem_of_getElem? (i := 15) rfl)
theorem hqV_X9_put : yX9_put.cls = RX9 ∧ yX9_put.cls ≠ "java/lang/invoke/MethodHandle" ∧ yX9_put.cls ≠ "java/lang/invoke/VarHandle" ∧ (parseMethodDescriptor yX9_put.desc).map (fun d => d.parameters.length) = some 1 := by decide +kernel
theorem wm_28_0 : Cond.methodLink RL 99 yX10_put ∈ wAll := inr_28 (List.mem_of_getElem? (i := 0) rfl)
theorem wm_28_1 : Cond.instanceMethod yX10_put ∈ wAll := inr_28 (List.mem_of_getElem? (i := 1) rfl)
theorem wm_28_2 : Cond.selects RX10 yX10_put yX10_put ∈ wAll := inr_28 (List.mem_of_getElem? (i := 2) rfl)
theorem wm_28_3 : Cond.code yX10_put cX10_put 2 (some .int) ∈ wAll := inr_28 (List.mem_of_getElem? (i := 3) rfl)
theorem hqV_X10_put : yX10_put.cls = RX10 ∧ yX10_put.cls ≠ "java/lang/invoke/MethodHandle" ∧ yX10_put.cls ≠ "java/lang/invoke/VarHandle" ∧ (parseMethodDescriptor yX10_put.desc).map (fun d => d.parameters.length) = some 1 := by decide +kernel
set_option maxHeartbeats 4000000 in
set_option maxRecDepth 100000 in
theorem law_put {κ : Cx} {g : Gx} (hκ : CF κ g RL cL_law wAll 4 room_1) {b L : Nat} {xs : Nat → Int32} (hsc : SC κ b L xs) {Inv : ST → ST → Prop} {X M : ST} {l3 : Int32} (hv1 : vp_in (l3 + 1) L) (hv2 : vp_in (l3 + 2) L) (hv3 : vp_in (l3 + 3) L) (hv4 : vp_in (l3 + 4) L) (h : wp_LR_put X (xs (l3 + 1).toNatClampNeg) (fun r X1 => wp_m_put M (xs (l3 + 1).toNatClampNeg) (fun q M1 => r = q ∧ Inv X1 M1))) (hrec : ∀ X M, Inv X M → Jw κ g 4 X M [(0, .ref b), (1, .ref (g.2.1 0)), (2, .ref (g.2.1 11)), (3, .int l3)] 1293 []) : Jw κ g 4 X M [(0, .ref b), (1, .ref (g.2.1 0)), (2, .ref (g.2.1 11)), (3, .int l3)] 871 [] := by
  refine j_aload_n (pc' := 872) hκ 1 rfl rfl dL_law_871 rfl ?_
  refine j_aload_n (pc' := 873) hκ 0 rfl rfl dL_law_872 rfl ?_
  refine j_iload_n (pc' := 874) hκ 3 rfl rfl dL_law_873 rfl ?_
  refine j_iconst (pc' := 875) (v := 1) hκ (by decide) dL_law_874 rfl ?_
  refine j_iadd (pc' := 876) hκ dL_law_875 rfl ?_
  refine j_sld (pc' := 877) hκ hsc hv1 dL_law_876 rfl ?_
  refine jx_callVi (pc' := 880) hκ (c_LR_put (dg hκ) h) rfl rfl rfl (gVa wm_27_12 wm_27_13 wm_27_14 wm_1_2 wm_27_15) hqV_X9_put ⟨Nat.le_of_ble_eq_true rfl, Nat.le_of_ble_eq_true rfl⟩ (wg_0 g _ _) rfl rfl rfl (Nat.le_of_ble_eq_true rfl) dL_law_877 rfl (fun r1 X1 h => ?_)
  refine j_aload_n (pc' := 881) hκ 2 rfl rfl dL_law_880 rfl ?_
  refine j_aload_n (pc' := 882) hκ 0 rfl rfl dL_law_881 rfl ?_
  refine j_iload_n (pc' := 883) hκ 3 rfl rfl dL_law_882 rfl ?_
  refine j_iconst (pc' := 884) (v := 1) hκ (by decide) dL_law_883 rfl ?_
  refine j_iadd (pc' := 885) hκ dL_law_884 rfl ?_
  refine j_sld (pc' := 886) hκ hsc hv1 dL_law_885 rfl ?_
  refine jm_callVi (pc' := 889) hκ (c_m_put (dg hκ) h) rfl rfl rfl (gVa wm_28_0 wm_28_1 wm_28_2 wm_1_5 wm_28_3) hqV_X10_put ⟨Nat.le_of_ble_eq_true rfl, Nat.le_of_ble_eq_true rfl⟩ (wg_11 g _ _) rfl rfl rfl (Nat.le_of_ble_eq_true rfl) dL_law_886 rfl (fun r2 M1 h => ?_)
  refine j_icmp_eq (tgt := 1293) (pc' := 892) hκ dL_law_889 (by decide) rfl (fun _ => ?_) (fun c9 => absurd h.1 c9)
  exact hrec _ _ h.2
theorem wm_28_4 : Cond.methodLink RL 100 yX9_clear ∈ wAll := inr_28 (List.mem_of_getElem? (i := 4) rfl)
theorem wm_28_5 : Cond.instanceMethod yX9_clear ∈ wAll := inr_28 (List.mem_of_getElem? (i := 5) rfl)
theorem wm_28_6 : Cond.selects RX9 yX9_clear yX9_clear ∈ wAll := inr_28 (List.mem_of_getElem? (i := 6) rfl)
theorem wm_28_7 : Cond.code yX9_clear cX9_clear 1 (some .int) ∈ wAll := inr_28 (List.mem_of_getElem? (i := 7) rfl)
theorem hqV_X9_clear : yX9_clear.cls = RX9 ∧ yX9_clear.cls ≠ "java/lang/invoke/MethodHandle" ∧ yX9_clear.cls ≠ "java/lang/invoke/VarHandle" ∧ (parseMethodDescriptor yX9_clear.desc).map (fun d => d.parameters.length) = some 0 := by decide +kernel
theorem wm_28_8 : Cond.methodLink RL 103 yX10_clear ∈ wAll := inr_28 (List.mem_of_getElem? (i := 8) rfl)
theorem wm_28_9 : Cond.instanceMethod yX10_clear ∈ wAll := inr_28 (List.mem_of_getElem? (i := 9) rfl)
theorem wm_28_10 : Cond.selects RX10 yX10_clear yX10_clear ∈ wAll := inr_28 (List.mem_of_getElem? (i := 10) rfl)
theorem wm_28_11 : Cond.code yX10_clear cX10_clear 2 (some .int) ∈ wAll := inr_28 (List.mem_of_getElem? (i := 11) rfl)
theorem hqV_X10_clear : yX10_clear.cls = RX10 ∧ yX10_clear.cls ≠ "java/lang/invoke/MethodHandle" ∧ yX10_clear.cls ≠ "java/lang/invoke/VarHandle" ∧ (parseMethodDescriptor yX10_clear.desc).map (fun d => d.parameters.length) = some 0 := by decide +kernel
set_option maxHeartbeats 4000000 in
set_option maxRecDepth 100000 in
theorem law_clear {κ : Cx} {g : Gx} (hκ : CF κ g RL cL_law wAll 4 room_1) {b L : Nat} {xs : Nat → Int32} (hsc : SC κ b L xs) {Inv : ST → ST → Prop} {X M : ST} {l3 : Int32} (hv1 : vp_in (l3 + 1) L) (hv2 : vp_in (l3 + 2) L) (hv3 : vp_in (l3 + 3) L) (hv4 : vp_in (l3 + 4) L) (h : wp_LR_clear X (fun r X1 => wp_m_clear M (fun q M1 => r = q ∧ Inv X1 M1))) (hrec : ∀ X M, Inv X M → Jw κ g 4 X M [(0, .ref b), (1, .ref (g.2.1 0)), (2, .ref (g.2.1 11)), (3, .int l3)] 1293 []) : Jw κ g 4 X M [(0, .ref b), (1, .ref (g.2.1 0)), (2, .ref (g.2.1 11)), (3, .int l3)] 894 [] := by
  refine j_aload_n (pc' := 895) hκ 1 rfl rfl dL_law_894 rfl ?_
  refine jx_callVi (pc' := 898) hκ (c_LR_clear (dg hκ) h) rfl rfl rfl (gVa wm_28_4 wm_28_5 wm_28_6 wm_1_2 wm_28_7) hqV_X9_clear ⟨Nat.le_of_ble_eq_true rfl, Nat.le_of_ble_eq_true rfl⟩ (wg_0 g _ _) rfl rfl rfl (Nat.le_of_ble_eq_true rfl) dL_law_895 rfl (fun r1 X1 h => ?_)
  refine j_aload_n (pc' := 899) hκ 2 rfl rfl dL_law_898 rfl ?_
  refine jm_callVi (pc' := 902) hκ (c_m_clear (dg hκ) h) rfl rfl rfl (gVa wm_28_8 wm_28_9 wm_28_10 wm_1_5 wm_28_11) hqV_X10_clear ⟨Nat.le_of_ble_eq_true rfl, Nat.le_of_ble_eq_true rfl⟩ (wg_11 g _ _) rfl rfl rfl (Nat.le_of_ble_eq_true rfl) dL_law_899 rfl (fun r2 M1 h => ?_)
  refine j_icmp_eq (tgt := 1293) (pc' := 905) hκ dL_law_902 (by decide) rfl (fun _ => ?_) (fun c9 => absurd h.1 c9)
  exact hrec _ _ h.2
theorem wm_28_12 : Cond.methodLink RL 104 yX9_at ∈ wAll := inr_28 (List.mem_of_getElem? (i := 12) rfl)
theorem wm_28_13 : Cond.instanceMethod yX9_at ∈ wAll := inr_28 (List.mem_of_getElem? (i := 13) rfl)
theorem wm_28_14 : Cond.selects RX9 yX9_at yX9_at ∈ wAll := inr_28 (List.mem_of_getElem? (i := 14) rfl)
theorem wm_28_15 : Cond.code yX9_at cX9_at 2 (some .int) ∈ wAll := inr_28 (List.mem_of_getElem? (i := 15) rfl)
theorem hqV_X9_at : yX9_at.cls = RX9 ∧ yX9_at.cls ≠ "java/lang/invoke/MethodHandle" ∧ yX9_at.cls ≠ "java/lang/invoke/VarHandle" ∧ (parseMethodDescriptor yX9_at.desc).map (fun d => d.parameters.length) = some 1 := by decide +kernel
theorem wm_28_16 : Cond.methodLink RL 107 yX10_at ∈ wAll := inr_28 (List.mem_of_getElem? (i := 16) rfl)
theorem wm_28_17 : Cond.instanceMethod yX10_at ∈ wAll := inr_28 (List.mem_of_getElem? (i := 17) rfl)
theorem wm_28_18 : Cond.selects RX10 yX10_at yX10_at ∈ wAll := inr_28 (List.mem_of_getElem? (i := 18) rfl)
theorem wm_28_19 : Cond.code yX10_at cX10_at 2 (some .int) ∈ wAll := inr_28 (List.mem_of_getElem? (i := 19) rfl)
theorem hqV_X10_at : yX10_at.cls = RX10 ∧ yX10_at.cls ≠ "java/lang/invoke/MethodHandle" ∧ yX10_at.cls ≠ "java/lang/invoke/VarHandle" ∧ (parseMethodDescriptor yX10_at.desc).map (fun d => d.parameters.length) = some 1 := by decide +kernel
set_option maxHeartbeats 4000000 in
set_option maxRecDepth 100000 in
theorem law_at {κ : Cx} {g : Gx} (hκ : CF κ g RL cL_law wAll 4 room_1) {b L : Nat} {xs : Nat → Int32} (hsc : SC κ b L xs) {Inv : ST → ST → Prop} {X M : ST} {l3 : Int32} (hv1 : vp_in (l3 + 1) L) (hv2 : vp_in (l3 + 2) L) (hv3 : vp_in (l3 + 3) L) (hv4 : vp_in (l3 + 4) L) (h : wp_LR_at X (xs (l3 + 1).toNatClampNeg) (fun r X1 => wp_m_at M (xs (l3 + 1).toNatClampNeg) (fun q M1 => r = q ∧ Inv X1 M1))) (hrec : ∀ X M, Inv X M → Jw κ g 4 X M [(0, .ref b), (1, .ref (g.2.1 0)), (2, .ref (g.2.1 11)), (3, .int l3)] 1293 []) : Jw κ g 4 X M [(0, .ref b), (1, .ref (g.2.1 0)), (2, .ref (g.2.1 11)), (3, .int l3)] 907 [] := by
  refine j_aload_n (pc' := 908) hκ 1 rfl rfl dL_law_907 rfl ?_
  refine j_aload_n (pc' := 909) hκ 0 rfl rfl dL_law_908 rfl ?_
  refine j_iload_n (pc' := 910) hκ 3 rfl rfl dL_law_909 rfl ?_
  refine j_iconst (pc' := 911) (v := 1) hκ (by decide) dL_law_910 rfl ?_
  refine j_iadd (pc' := 912) hκ dL_law_911 rfl ?_
  refine j_sld (pc' := 913) hκ hsc hv1 dL_law_912 rfl ?_
  refine jx_callVi (pc' := 916) hκ (c_LR_at (dg hκ) h) rfl rfl rfl (gVa wm_28_12 wm_28_13 wm_28_14 wm_1_2 wm_28_15) hqV_X9_at ⟨Nat.le_of_ble_eq_true rfl, Nat.le_of_ble_eq_true rfl⟩ (wg_0 g _ _) rfl rfl rfl (Nat.le_of_ble_eq_true rfl) dL_law_913 rfl (fun r1 X1 h => ?_)
  refine j_aload_n (pc' := 917) hκ 2 rfl rfl dL_law_916 rfl ?_
  refine j_aload_n (pc' := 918) hκ 0 rfl rfl dL_law_917 rfl ?_
  refine j_iload_n (pc' := 919) hκ 3 rfl rfl dL_law_918 rfl ?_
  refine j_iconst (pc' := 920) (v := 1) hκ (by decide) dL_law_919 rfl ?_
  refine j_iadd (pc' := 921) hκ dL_law_920 rfl ?_
  refine j_sld (pc' := 922) hκ hsc hv1 dL_law_921 rfl ?_
  refine jm_callVi (pc' := 925) hκ (c_m_at (dg hκ) h) rfl rfl rfl (gVa wm_28_16 wm_28_17 wm_28_18 wm_1_5 wm_28_19) hqV_X10_at ⟨Nat.le_of_ble_eq_true rfl, Nat.le_of_ble_eq_true rfl⟩ (wg_11 g _ _) rfl rfl rfl (Nat.le_of_ble_eq_true rfl) dL_law_922 rfl (fun r2 M1 h => ?_)
  refine j_icmp_eq (tgt := 1293) (pc' := 928) hκ dL_law_925 (by decide) rfl (fun _ => ?_) (fun c9 => absurd h.1 c9)
  exact hrec _ _ h.2
theorem wm_28_20 : Cond.methodLink RL 108 yX9_length ∈ wAll := inr_28 (List.mem_of_getElem? (i := 20) rfl)
theorem wm_28_21 : Cond.instanceMethod yX9_length ∈ wAll := inr_28 (List.mem_of_getElem? (i := 21) rfl)
theorem wm_28_22 : Cond.selects RX9 yX9_length yX9_length ∈ wAll := inr_28 (List.mem_of_getElem? (i := 22) rfl)
theorem wm_28_23 : Cond.code yX9_length cX9_length 2 (some .int) ∈ wAll := inr_28 (List.mem_of_getElem? (i := 23) rfl)
theorem hqV_X9_length : yX9_length.cls = RX9 ∧ yX9_length.cls ≠ "java/lang/invoke/MethodHandle" ∧ yX9_length.cls ≠ "java/lang/invoke/VarHandle" ∧ (parseMethodDescriptor yX9_length.desc).map (fun d => d.parameters.length) = some 0 := by decide +kernel
theorem wm_29_5 : Cond.methodLink RL 111 yX10_length ∈ wAll := inr_29 (List.mem_of_getElem? (i := 5) rfl)
set_option maxHeartbeats 4000000 in
set_option maxRecDepth 100000 in
theorem law_length {κ : Cx} {g : Gx} (hκ : CF κ g RL cL_law wAll 4 room_1) {b L : Nat} {xs : Nat → Int32} (hsc : SC κ b L xs) {Inv : ST → ST → Prop} {X M : ST} {l3 : Int32} (hv1 : vp_in (l3 + 1) L) (hv2 : vp_in (l3 + 2) L) (hv3 : vp_in (l3 + 3) L) (hv4 : vp_in (l3 + 4) L) (h : wp_LR_length X (fun r X1 => wp_m_length M (fun q M1 => r = q ∧ Inv X1 M1))) (hrec : ∀ X M, Inv X M → Jw κ g 4 X M [(0, .ref b), (1, .ref (g.2.1 0)), (2, .ref (g.2.1 11)), (3, .int l3)] 1293 []) : Jw κ g 4 X M [(0, .ref b), (1, .ref (g.2.1 0)), (2, .ref (g.2.1 11)), (3, .int l3)] 930 [] := by
  refine j_aload_n (pc' := 931) hκ 1 rfl rfl dL_law_930 rfl ?_
  refine jx_callVi (pc' := 934) hκ (c_LR_length (dg hκ) h) rfl rfl rfl (gVa wm_28_20 wm_28_21 wm_28_22 wm_1_2 wm_28_23) hqV_X9_length ⟨Nat.le_of_ble_eq_true rfl, Nat.le_of_ble_eq_true rfl⟩ (wg_0 g _ _) rfl rfl rfl (Nat.le_of_ble_eq_true rfl) dL_law_931 rfl (fun r1 X1 h => ?_)
  refine j_aload_n (pc' := 935) hκ 2 rfl rfl dL_law_934 rfl ?_
  refine jm_callVi (pc' := 938) hκ (c_m_length (dg hκ) h) rfl rfl rfl (gVa wm_29_5 wm_29_6 wm_29_7 wm_1_5 wm_29_8) hqV_X10_length ⟨Nat.le_of_ble_eq_true rfl, Nat.le_of_ble_eq_true rfl⟩ (wg_11 g _ _) rfl rfl rfl (Nat.le_of_ble_eq_true rfl) dL_law_935 rfl (fun r2 M1 h => ?_)
  refine j_icmp_eq (tgt := 1293) (pc' := 941) hκ dL_law_938 (by decide) rfl (fun _ => ?_) (fun c9 => absurd h.1 c9)
  exact hrec _ _ h.2
theorem wm_29_9 : Cond.methodLink RL 112 yX9_keeps ∈ wAll := inr_29 (List.mem_of_getElem? (i := 9) rfl)
theorem wm_29_10 : Cond.instanceMethod yX9_keeps ∈ wAll := inr_29 (List.mem_of_getElem? (i := 10) rfl)
theorem wm_29_11 : Cond.selects RX9 yX9_keeps yX9_keeps ∈ wAll := inr_29 (List.mem_of_getElem? (i := 11) rfl)
theorem wm_29_12 : Cond.code yX9_keeps cX9_keeps 1 (some .int) ∈ wAll := inr_29 (List.mem_of_getElem? (i := 12) rfl)
theorem hqV_X9_keeps : yX9_keeps.cls = RX9 ∧ yX9_keeps.cls ≠ "java/lang/invoke/MethodHandle" ∧ yX9_keeps.cls ≠ "java/lang/invoke/VarHandle" ∧ (parseMethodDescriptor yX9_keeps.desc).map (fun d => d.parameters.length) = some 0 := by decide +kernel
theorem wm_29_17 : Cond.methodLink RL 115 yX10_keeps ∈ wAll := inr_29 (List.mem_of_getElem? (i := 17) rfl)
theorem wm_29_18 : Cond.instanceMethod yX10_keeps ∈ wAll := inr_29 (List.mem_of_getElem? (i := 18) rfl)
theorem wm_29_19 : Cond.selects RX10 yX10_keeps yX10_keeps ∈ wAll := inr_29 (List.mem_of_getElem? (i := 19) rfl)
theorem wm_29_20 : Cond.code yX10_keeps cX10_keeps 1 (some .int) ∈ wAll := inr_29 (List.mem_of_getElem? (i := 20) rfl)
theorem hqV_X10_keeps : yX10_keeps.cls = RX10 ∧ yX10_keeps.cls ≠ "java/lang/invoke/MethodHandle" ∧ yX10_keeps.cls ≠ "java/lang/invoke/VarHandle" ∧ (parseMethodDescriptor yX10_keeps.desc).map (fun d => d.parameters.length) = some 0 := by decide +kernel
set_option maxHeartbeats 4000000 in
set_option maxRecDepth 100000 in
theorem law_keeps {κ : Cx} {g : Gx} (hκ : CF κ g RL cL_law wAll 4 room_1) {b L : Nat} {xs : Nat → Int32} (hsc : SC κ b L xs) {Inv : ST → ST → Prop} {X M : ST} {l3 : Int32} (hv1 : vp_in (l3 + 1) L) (hv2 : vp_in (l3 + 2) L) (hv3 : vp_in (l3 + 3) L) (hv4 : vp_in (l3 + 4) L) (h : wp_LR_keeps X (fun r X1 => wp_m_keeps M (fun q M1 => r = q ∧ Inv X1 M1))) (hrec : ∀ X M, Inv X M → Jw κ g 4 X M [(0, .ref b), (1, .ref (g.2.1 0)), (2, .ref (g.2.1 11)), (3, .int l3)] 1293 []) : Jw κ g 4 X M [(0, .ref b), (1, .ref (g.2.1 0)), (2, .ref (g.2.1 11)), (3, .int l3)] 943 [] := by
  refine j_aload_n (pc' := 944) hκ 1 rfl rfl dL_law_943 rfl ?_
  refine jx_callVi (pc' := 947) hκ (c_LR_keeps (dg hκ) h) rfl rfl rfl (gVa wm_29_9 wm_29_10 wm_29_11 wm_1_2 wm_29_12) hqV_X9_keeps ⟨Nat.le_of_ble_eq_true rfl, Nat.le_of_ble_eq_true rfl⟩ (wg_0 g _ _) rfl rfl rfl (Nat.le_of_ble_eq_true rfl) dL_law_944 rfl (fun r1 X1 h => ?_)
  refine j_aload_n (pc' := 948) hκ 2 rfl rfl dL_law_947 rfl ?_
  refine jm_callVi (pc' := 951) hκ (c_m_keeps (dg hκ) h) rfl rfl rfl (gVa wm_29_17 wm_29_18 wm_29_19 wm_1_5 wm_29_20) hqV_X10_keeps ⟨Nat.le_of_ble_eq_true rfl, Nat.le_of_ble_eq_true rfl⟩ (wg_11 g _ _) rfl rfl rfl (Nat.le_of_ble_eq_true rfl) dL_law_948 rfl (fun r2 M1 h => ?_)
  refine j_icmp_eq (tgt := 1293) (pc' := 954) hκ dL_law_951 (by decide) rfl (fun _ => ?_) (fun c9 => absurd h.1 c9)
  exact hrec _ _ h.2
theorem wm_29_21 : Cond.methodLink RL 116 yX9_turn ∈ wAll := inr_29 (List.mem_of_getElem? (i := 21) rfl)
theorem wm_29_22 : Cond.instanceMethod yX9_turn ∈ wAll := inr_29 (List.mem_of_getElem? (i := 22) rfl)
theorem wm_29_23 : Cond.selects RX9 yX9_turn yX9_turn ∈ wAll := inr_29 (List.mem_of_getElem? (i := 23) rfl)
theorem wm_30_0 : Cond.code yX9_turn cX9_turn 3 (some .int) ∈ wAll := inr_30 (List.mem_of_getElem? (i := 0) rfl)
theorem hqV_X9_turn : yX9_turn.cls = RX9 ∧ yX9_turn.cls ≠ "java/lang/invoke/MethodHandle" ∧ yX9_turn.cls ≠ "java/lang/invoke/VarHandle" ∧ (parseMethodDescriptor yX9_turn.desc).map (fun d => d.parameters.length) = some 2 := by decide +kernel
theorem wm_30_5 : Cond.methodLink RL 119 yX10_turn ∈ wAll := inr_30 (List.mem_of_getElem? (i := 5) rfl)
theorem wm_30_6 : Cond.instanceMethod yX10_turn ∈ wAll := inr_30 (List.mem_of_getElem? (i := 6) rfl)
theorem wm_30_7 : Cond.selects RX10 yX10_turn yX10_turn ∈ wAll := inr_30 (List.mem_of_getElem? (i := 7) rfl)
theorem wm_30_8 : Cond.code yX10_turn cX10_turn 3 (some .int) ∈ wAll := inr_30 (List.mem_of_getElem? (i := 8) rfl)
theorem hqV_X10_turn : yX10_turn.cls = RX10 ∧ yX10_turn.cls ≠ "java/lang/invoke/MethodHandle" ∧ yX10_turn.cls ≠ "java/lang/invoke/VarHandle" ∧ (parseMethodDescriptor yX10_turn.desc).map (fun d => d.parameters.length) = some 2 := by decide +kernel
set_option maxHeartbeats 4000000 in
set_option maxRecDepth 100000 in
theorem law_turn {κ : Cx} {g : Gx} (hκ : CF κ g RL cL_law wAll 4 room_1) {b L : Nat} {xs : Nat → Int32} (hsc : SC κ b L xs) {Inv : ST → ST → Prop} {X M : ST} {l3 : Int32} (hv1 : vp_in (l3 + 1) L) (hv2 : vp_in (l3 + 2) L) (hv3 : vp_in (l3 + 3) L) (hv4 : vp_in (l3 + 4) L) (h : wp_LR_turn X (xs (l3 + 1).toNatClampNeg) (xs (l3 + 2).toNatClampNeg) (fun r X1 => wp_m_turn M (xs (l3 + 1).toNatClampNeg) (xs (l3 + 2).toNatClampNeg) (fun q M1 => r = q ∧ Inv X1 M1))) (hrec : ∀ X M, Inv X M → Jw κ g 4 X M [(0, .ref b), (1, .ref (g.2.1 0)), (2, .ref (g.2.1 11)), (3, .int l3)] 1293 []) : Jw κ g 4 X M [(0, .ref b), (1, .ref (g.2.1 0)), (2, .ref (g.2.1 11)), (3, .int l3)] 956 [] := by
  refine j_aload_n (pc' := 957) hκ 1 rfl rfl dL_law_956 rfl ?_
  refine j_aload_n (pc' := 958) hκ 0 rfl rfl dL_law_957 rfl ?_
  refine j_iload_n (pc' := 959) hκ 3 rfl rfl dL_law_958 rfl ?_
  refine j_iconst (pc' := 960) (v := 1) hκ (by decide) dL_law_959 rfl ?_
  refine j_iadd (pc' := 961) hκ dL_law_960 rfl ?_
  refine j_sld (pc' := 962) hκ hsc hv1 dL_law_961 rfl ?_
  refine j_aload_n (pc' := 963) hκ 0 rfl rfl dL_law_962 rfl ?_
  refine j_iload_n (pc' := 964) hκ 3 rfl rfl dL_law_963 rfl ?_
  refine j_iconst (pc' := 965) (v := 2) hκ (by decide) dL_law_964 rfl ?_
  refine j_iadd (pc' := 966) hκ dL_law_965 rfl ?_
  refine j_sld (pc' := 967) hκ hsc hv2 dL_law_966 rfl ?_
  refine jx_callVi (pc' := 970) hκ (c_LR_turn (dg hκ) h) rfl rfl rfl (gVa wm_29_21 wm_29_22 wm_29_23 wm_1_2 wm_30_0) hqV_X9_turn ⟨Nat.le_of_ble_eq_true rfl, Nat.le_of_ble_eq_true rfl⟩ (wg_0 g _ _) rfl rfl rfl (Nat.le_of_ble_eq_true rfl) dL_law_967 rfl (fun r1 X1 h => ?_)
  refine j_aload_n (pc' := 971) hκ 2 rfl rfl dL_law_970 rfl ?_
  refine j_aload_n (pc' := 972) hκ 0 rfl rfl dL_law_971 rfl ?_
  refine j_iload_n (pc' := 973) hκ 3 rfl rfl dL_law_972 rfl ?_
  refine j_iconst (pc' := 974) (v := 1) hκ (by decide) dL_law_973 rfl ?_
  refine j_iadd (pc' := 975) hκ dL_law_974 rfl ?_
  refine j_sld (pc' := 976) hκ hsc hv1 dL_law_975 rfl ?_
  refine j_aload_n (pc' := 977) hκ 0 rfl rfl dL_law_976 rfl ?_
  refine j_iload_n (pc' := 978) hκ 3 rfl rfl dL_law_977 rfl ?_
  refine j_iconst (pc' := 979) (v := 2) hκ (by decide) dL_law_978 rfl ?_
  refine j_iadd (pc' := 980) hκ dL_law_979 rfl ?_
  refine j_sld (pc' := 981) hκ hsc hv2 dL_law_980 rfl ?_
  refine jm_callVi (pc' := 984) hκ (c_m_turn (dg hκ) h) rfl rfl rfl (gVa wm_30_5 wm_30_6 wm_30_7 wm_1_5 wm_30_8) hqV_X10_turn ⟨Nat.le_of_ble_eq_true rfl, Nat.le_of_ble_eq_true rfl⟩ (wg_11 g _ _) rfl rfl rfl (Nat.le_of_ble_eq_true rfl) dL_law_981 rfl (fun r2 M1 h => ?_)
  refine j_icmp_eq (tgt := 1293) (pc' := 987) hκ dL_law_984 (by decide) rfl (fun _ => ?_) (fun c9 => absurd h.1 c9)
  exact hrec _ _ h.2
theorem wm_30_13 : Cond.methodLink RL 120 yX9_better ∈ wAll := inr_30 (List.mem_of_getElem? (i := 13) rfl)
theorem wm_30_14 : Cond.instanceMethod yX9_better ∈ wAll := inr_30 (List.mem_of_getElem? (i := 14) rfl)
theorem wm_30_15 : Cond.selects RX9 yX9_better yX9_better ∈ wAll := inr_30 (List.mem_of_getElem? (i := 15) rfl)
theorem wm_30_16 : Cond.code yX9_better cX9_better 2 (some .int) ∈ wAll := inr_30 (List.mem_of_getElem? (i := 16) rfl)
theorem hqV_X9_better : yX9_better.cls = RX9 ∧ yX9_better.cls ≠ "java/lang/invoke/MethodHandle" ∧ yX9_better.cls ≠ "java/lang/invoke/VarHandle" ∧ (parseMethodDescriptor yX9_better.desc).map (fun d => d.parameters.length) = some 0 := by decide +kernel
theorem wm_31_3 : Cond.methodLink RL 123 yX10_better ∈ wAll := inr_31 (List.mem_of_getElem? (i := 3) rfl)
theorem wm_31_4 : Cond.instanceMethod yX10_better ∈ wAll := inr_31 (List.mem_of_getElem? (i := 4) rfl)
theorem wm_31_5 : Cond.selects RX10 yX10_better yX10_better ∈ wAll := inr_31 (List.mem_of_getElem? (i := 5) rfl)
theorem wm_31_6 : Cond.code yX10_better cX10_better 3 (some .int) ∈ wAll := inr_31 (List.mem_of_getElem? (i := 6) rfl)
theorem hqV_X10_better : yX10_better.cls = RX10 ∧ yX10_better.cls ≠ "java/lang/invoke/MethodHandle" ∧ yX10_better.cls ≠ "java/lang/invoke/VarHandle" ∧ (parseMethodDescriptor yX10_better.desc).map (fun d => d.parameters.length) = some 0 := by decide +kernel
set_option maxHeartbeats 4000000 in
set_option maxRecDepth 100000 in
theorem law_better {κ : Cx} {g : Gx} (hκ : CF κ g RL cL_law wAll 4 room_1) {b L : Nat} {xs : Nat → Int32} (hsc : SC κ b L xs) {Inv : ST → ST → Prop} {X M : ST} {l3 : Int32} (hv1 : vp_in (l3 + 1) L) (hv2 : vp_in (l3 + 2) L) (hv3 : vp_in (l3 + 3) L) (hv4 : vp_in (l3 + 4) L) (h : wp_LR_better X (fun r X1 => wp_m_better M (fun q M1 => r = q ∧ Inv X1 M1))) (hrec : ∀ X M, Inv X M → Jw κ g 4 X M [(0, .ref b), (1, .ref (g.2.1 0)), (2, .ref (g.2.1 11)), (3, .int l3)] 1293 []) : Jw κ g 4 X M [(0, .ref b), (1, .ref (g.2.1 0)), (2, .ref (g.2.1 11)), (3, .int l3)] 989 [] := by
  refine j_aload_n (pc' := 990) hκ 1 rfl rfl dL_law_989 rfl ?_
  refine jx_callVi (pc' := 993) hκ (c_LR_better (dg hκ) h) rfl rfl rfl (gVa wm_30_13 wm_30_14 wm_30_15 wm_1_2 wm_30_16) hqV_X9_better ⟨Nat.le_of_ble_eq_true rfl, Nat.le_of_ble_eq_true rfl⟩ (wg_0 g _ _) rfl rfl rfl (Nat.le_of_ble_eq_true rfl) dL_law_990 rfl (fun r1 X1 h => ?_)
  refine j_aload_n (pc' := 994) hκ 2 rfl rfl dL_law_993 rfl ?_
  refine jm_callVi (pc' := 997) hκ (c_m_better (dg hκ) h) rfl rfl rfl (gVa wm_31_3 wm_31_4 wm_31_5 wm_1_5 wm_31_6) hqV_X10_better ⟨Nat.le_of_ble_eq_true rfl, Nat.le_of_ble_eq_true rfl⟩ (wg_11 g _ _) rfl rfl rfl (Nat.le_of_ble_eq_true rfl) dL_law_994 rfl (fun r2 M1 h => ?_)
  refine j_icmp_eq (tgt := 1293) (pc' := 1000) hκ dL_law_997 (by decide) rfl (fun _ => ?_) (fun c9 => absurd h.1 c9)
  exact hrec _ _ h.2
theorem wm_31_12 : Cond.methodLink RL 124 yX9_price ∈ wAll := inr_31 (List.mem_of_getElem? (i := 12) rfl)
theorem wm_31_13 : Cond.instanceMethod yX9_price ∈ wAll := inr_31 (List.mem_of_getElem? (i := 13) rfl)
theorem wm_31_14 : Cond.selects RX9 yX9_price yX9_price ∈ wAll := inr_31 (List.mem_of_getElem? (i := 14) rfl)
theorem wm_31_15 : Cond.code yX9_price cX9_price 3 (some .int) ∈ wAll := inr_31 (List.mem_of_getElem? (i := 15) rfl)
theorem hqV_X9_price : yX9_price.cls = RX9 ∧ yX9_price.cls ≠ "java/lang/invoke/MethodHandle" ∧ yX9_price.cls ≠ "java/lang/invoke/VarHandle" ∧ (parseMethodDescriptor yX9_price.desc).map (fun d => d.parameters.length) = some 2 := by decide +kernel
theorem wm_31_18 : Cond.methodLink RL 127 yX10_price ∈ wAll := inr_31 (List.mem_of_getElem? (i := 18) rfl)
theorem wm_31_19 : Cond.instanceMethod yX10_price ∈ wAll := inr_31 (List.mem_of_getElem? (i := 19) rfl)
theorem wm_31_20 : Cond.selects RX10 yX10_price yX10_price ∈ wAll := inr_31 (List.mem_of_getElem? (i := 20) rfl)
theorem wm_31_21 : Cond.code yX10_price cX10_price 3 (some .int) ∈ wAll := inr_31 (List.mem_of_getElem? (i := 21) rfl)
theorem hqV_X10_price : yX10_price.cls = RX10 ∧ yX10_price.cls ≠ "java/lang/invoke/MethodHandle" ∧ yX10_price.cls ≠ "java/lang/invoke/VarHandle" ∧ (parseMethodDescriptor yX10_price.desc).map (fun d => d.parameters.length) = some 2 := by decide +kernel
set_option maxHeartbeats 4000000 in
set_option maxRecDepth 100000 in
theorem law_price {κ : Cx} {g : Gx} (hκ : CF κ g RL cL_law wAll 4 room_1) {b L : Nat} {xs : Nat → Int32} (hsc : SC κ b L xs) {Inv : ST → ST → Prop} {X M : ST} {l3 : Int32} (hv1 : vp_in (l3 + 1) L) (hv2 : vp_in (l3 + 2) L) (hv3 : vp_in (l3 + 3) L) (hv4 : vp_in (l3 + 4) L) (h : wp_LR_price X (xs (l3 + 1).toNatClampNeg) (xs (l3 + 2).toNatClampNeg) (fun r X1 => wp_m_price M (xs (l3 + 1).toNatClampNeg) (xs (l3 + 2).toNatClampNeg) (fun q M1 => r = q ∧ Inv X1 M1))) (hrec : ∀ X M, Inv X M → Jw κ g 4 X M [(0, .ref b), (1, .ref (g.2.1 0)), (2, .ref (g.2.1 11)), (3, .int l3)] 1293 []) : Jw κ g 4 X M [(0, .ref b), (1, .ref (g.2.1 0)), (2, .ref (g.2.1 11)), (3, .int l3)] 1002 [] := by
  refine j_aload_n (pc' := 1003) hκ 1 rfl rfl dL_law_1002 rfl ?_
  refine j_aload_n (pc' := 1004) hκ 0 rfl rfl dL_law_1003 rfl ?_
  refine j_iload_n (pc' := 1005) hκ 3 rfl rfl dL_law_1004 rfl ?_
  refine j_iconst (pc' := 1006) (v := 1) hκ (by decide) dL_law_1005 rfl ?_
  refine j_iadd (pc' := 1007) hκ dL_law_1006 rfl ?_
  refine j_sld (pc' := 1008) hκ hsc hv1 dL_law_1007 rfl ?_
  refine j_aload_n (pc' := 1009) hκ 0 rfl rfl dL_law_1008 rfl ?_
  refine j_iload_n (pc' := 1010) hκ 3 rfl rfl dL_law_1009 rfl ?_
  refine j_iconst (pc' := 1011) (v := 2) hκ (by decide) dL_law_1010 rfl ?_
  refine j_iadd (pc' := 1012) hκ dL_law_1011 rfl ?_
  refine j_sld (pc' := 1013) hκ hsc hv2 dL_law_1012 rfl ?_
  refine jx_callVi (pc' := 1016) hκ (c_LR_price (dg hκ) h) rfl rfl rfl (gVa wm_31_12 wm_31_13 wm_31_14 wm_1_2 wm_31_15) hqV_X9_price ⟨Nat.le_of_ble_eq_true rfl, Nat.le_of_ble_eq_true rfl⟩ (wg_0 g _ _) rfl rfl rfl (Nat.le_of_ble_eq_true rfl) dL_law_1013 rfl (fun r1 X1 h => ?_)
  refine j_aload_n (pc' := 1017) hκ 2 rfl rfl dL_law_1016 rfl ?_
  refine j_aload_n (pc' := 1018) hκ 0 rfl rfl dL_law_1017 rfl ?_
  refine j_iload_n (pc' := 1019) hκ 3 rfl rfl dL_law_1018 rfl ?_
  refine j_iconst (pc' := 1020) (v := 1) hκ (by decide) dL_law_1019 rfl ?_
  refine j_iadd (pc' := 1021) hκ dL_law_1020 rfl ?_
  refine j_sld (pc' := 1022) hκ hsc hv1 dL_law_1021 rfl ?_
  refine j_aload_n (pc' := 1023) hκ 0 rfl rfl dL_law_1022 rfl ?_
  refine j_iload_n (pc' := 1024) hκ 3 rfl rfl dL_law_1023 rfl ?_
  refine j_iconst (pc' := 1025) (v := 2) hκ (by decide) dL_law_1024 rfl ?_
  refine j_iadd (pc' := 1026) hκ dL_law_1025 rfl ?_
  refine j_sld (pc' := 1027) hκ hsc hv2 dL_law_1026 rfl ?_
  refine jm_callVi (pc' := 1030) hκ (c_m_price (dg hκ) h) rfl rfl rfl (gVa wm_31_18 wm_31_19 wm_31_20 wm_1_5 wm_31_21) hqV_X10_price ⟨Nat.le_of_ble_eq_true rfl, Nat.le_of_ble_eq_true rfl⟩ (wg_11 g _ _) rfl rfl rfl (Nat.le_of_ble_eq_true rfl) dL_law_1027 rfl (fun r2 M1 h => ?_)
  refine j_icmp_eq (tgt := 1293) (pc' := 1033) hκ dL_law_1030 (by decide) rfl (fun _ => ?_) (fun c9 => absurd h.1 c9)
  exact hrec _ _ h.2
theorem wm_32_0 : Cond.methodLink RL 128 yX9_climb ∈ wAll := inr_32 (List.mem_of_getElem? (i := 0) rfl)
theorem wm_32_1 : Cond.instanceMethod yX9_climb ∈ wAll := inr_32 (List.mem_of_getElem? (i := 1) rfl)
theorem wm_32_2 : Cond.selects RX9 yX9_climb yX9_climb ∈ wAll := inr_32 (List.mem_of_getElem? (i := 2) rfl)
theorem wm_32_3 : Cond.code yX9_climb cX9_climb 3 (some .int) ∈ wAll := inr_32 (List.mem_of_getElem? (i := 3) rfl)
theorem hqV_X9_climb : yX9_climb.cls = RX9 ∧ yX9_climb.cls ≠ "java/lang/invoke/MethodHandle" ∧ yX9_climb.cls ≠ "java/lang/invoke/VarHandle" ∧ (parseMethodDescriptor yX9_climb.desc).map (fun d => d.parameters.length) = some 1 := by decide +kernel
theorem wm_35_20 : Cond.methodLink RL 131 yX10_climb ∈ wAll := inr_35 (List.mem_of_getElem? (i := 20) rfl)
theorem wm_35_21 : Cond.instanceMethod yX10_climb ∈ wAll := inr_35 (List.mem_of_getElem? (i := 21) rfl)
theorem wm_35_22 : Cond.selects RX10 yX10_climb yX10_climb ∈ wAll := inr_35 (List.mem_of_getElem? (i := 22) rfl)
theorem wm_35_23 : Cond.code yX10_climb cX10_climb 5 (some .int) ∈ wAll := inr_35 (List.mem_of_getElem? (i := 23) rfl)
theorem hqV_X10_climb : yX10_climb.cls = RX10 ∧ yX10_climb.cls ≠ "java/lang/invoke/MethodHandle" ∧ yX10_climb.cls ≠ "java/lang/invoke/VarHandle" ∧ (parseMethodDescriptor yX10_climb.desc).map (fun d => d.parameters.length) = some 1 := by decide +kernel
set_option maxHeartbeats 4000000 in
set_option maxRecDepth 100000 in
theorem law_climb {κ : Cx} {g : Gx} (hκ : CF κ g RL cL_law wAll 4 room_1) {b L : Nat} {xs : Nat → Int32} (hsc : SC κ b L xs) {Inv : ST → ST → Prop} {X M : ST} {l3 : Int32} (hv1 : vp_in (l3 + 1) L) (hv2 : vp_in (l3 + 2) L) (hv3 : vp_in (l3 + 3) L) (hv4 : vp_in (l3 + 4) L) (h : wp_LR_climb X (xs (l3 + 1).toNatClampNeg) (fun r X1 => wp_m_climb M (xs (l3 + 1).toNatClampNeg) (fun q M1 => r = q ∧ Inv X1 M1))) (hrec : ∀ X M, Inv X M → Jw κ g 4 X M [(0, .ref b), (1, .ref (g.2.1 0)), (2, .ref (g.2.1 11)), (3, .int l3)] 1293 []) : Jw κ g 4 X M [(0, .ref b), (1, .ref (g.2.1 0)), (2, .ref (g.2.1 11)), (3, .int l3)] 1035 [] := by
  refine j_aload_n (pc' := 1036) hκ 1 rfl rfl dL_law_1035 rfl ?_
  refine j_aload_n (pc' := 1037) hκ 0 rfl rfl dL_law_1036 rfl ?_
  refine j_iload_n (pc' := 1038) hκ 3 rfl rfl dL_law_1037 rfl ?_
  refine j_iconst (pc' := 1039) (v := 1) hκ (by decide) dL_law_1038 rfl ?_
  refine j_iadd (pc' := 1040) hκ dL_law_1039 rfl ?_
  refine j_sld (pc' := 1041) hκ hsc hv1 dL_law_1040 rfl ?_
  refine jx_callVi (pc' := 1044) hκ (c_LR_climb (dg hκ) h) rfl rfl rfl (gVa wm_32_0 wm_32_1 wm_32_2 wm_1_2 wm_32_3) hqV_X9_climb ⟨Nat.le_of_ble_eq_true rfl, Nat.le_of_ble_eq_true rfl⟩ (wg_0 g _ _) rfl rfl rfl (Nat.le_of_ble_eq_true rfl) dL_law_1041 rfl (fun r1 X1 h => ?_)
  refine j_aload_n (pc' := 1045) hκ 2 rfl rfl dL_law_1044 rfl ?_
  refine j_aload_n (pc' := 1046) hκ 0 rfl rfl dL_law_1045 rfl ?_
  refine j_iload_n (pc' := 1047) hκ 3 rfl rfl dL_law_1046 rfl ?_
  refine j_iconst (pc' := 1048) (v := 1) hκ (by decide) dL_law_1047 rfl ?_
  refine j_iadd (pc' := 1049) hκ dL_law_1048 rfl ?_
  refine j_sld (pc' := 1050) hκ hsc hv1 dL_law_1049 rfl ?_
  refine jm_callVi (pc' := 1053) hκ (c_m_climb (dg hκ) h) rfl rfl rfl (gVa wm_35_20 wm_35_21 wm_35_22 wm_1_5 wm_35_23) hqV_X10_climb ⟨Nat.le_of_ble_eq_true rfl, Nat.le_of_ble_eq_true rfl⟩ (wg_11 g _ _) rfl rfl rfl (Nat.le_of_ble_eq_true rfl) dL_law_1050 rfl (fun r2 M1 h => ?_)
  refine j_icmp_eq (tgt := 1293) (pc' := 1056) hκ dL_law_1053 (by decide) rfl (fun _ => ?_) (fun c9 => absurd h.1 c9)
  exact hrec _ _ h.2
theorem wm_37_15 : Cond.methodLink RL 132 yX9_bound ∈ wAll := inr_37 (List.mem_of_getElem? (i := 15) rfl)
theorem wm_37_16 : Cond.instanceMethod yX9_bound ∈ wAll := inr_37 (List.mem_of_getElem? (i := 16) rfl)
theorem wm_37_17 : Cond.selects RX9 yX9_bound yX9_bound ∈ wAll := inr_37 (List.mem_of_getElem? (i := 17) rfl)
theorem wm_37_18 : Cond.code yX9_bound cX9_bound 1 (some .long) ∈ wAll := inr_37 (List.mem_of_getElem? (i := 18) rfl)
theorem hqV_X9_bound : yX9_bound.cls = RX9 ∧ yX9_bound.cls ≠ "java/lang/invoke/MethodHandle" ∧ yX9_bound.cls ≠ "java/lang/invoke/VarHandle" ∧ (parseMethodDescriptor yX9_bound.desc).map (fun d => d.parameters.length) = some 0 := by decide +kernel
theorem wm_37_20 : Cond.methodLink RL 136 yX10_bound ∈ wAll := inr_37 (List.mem_of_getElem? (i := 20) rfl)
theorem wm_37_21 : Cond.instanceMethod yX10_bound ∈ wAll := inr_37 (List.mem_of_getElem? (i := 21) rfl)
theorem wm_37_22 : Cond.selects RX10 yX10_bound yX10_bound ∈ wAll := inr_37 (List.mem_of_getElem? (i := 22) rfl)
theorem wm_37_23 : Cond.code yX10_bound cX10_bound 1 (some .long) ∈ wAll := inr_37 (List.mem_of_getElem? (i := 23) rfl)
theorem hqV_X10_bound : yX10_bound.cls = RX10 ∧ yX10_bound.cls ≠ "java/lang/invoke/MethodHandle" ∧ yX10_bound.cls ≠ "java/lang/invoke/VarHandle" ∧ (parseMethodDescriptor yX10_bound.desc).map (fun d => d.parameters.length) = some 0 := by decide +kernel
set_option maxHeartbeats 4000000 in
set_option maxRecDepth 100000 in
theorem law_bound {κ : Cx} {g : Gx} (hκ : CF κ g RL cL_law wAll 4 room_1) {b L : Nat} {xs : Nat → Int32} (hsc : SC κ b L xs) {Inv : ST → ST → Prop} {X M : ST} {l3 : Int32} (hv1 : vp_in (l3 + 1) L) (hv2 : vp_in (l3 + 2) L) (hv3 : vp_in (l3 + 3) L) (hv4 : vp_in (l3 + 4) L) (h : wp_LR_bound X (fun r X1 => wp_m_bound M (fun q M1 => r = q ∧ Inv X1 M1))) (hrec : ∀ X M, Inv X M → Jw κ g 4 X M [(0, .ref b), (1, .ref (g.2.1 0)), (2, .ref (g.2.1 11)), (3, .int l3)] 1293 []) : Jw κ g 4 X M [(0, .ref b), (1, .ref (g.2.1 0)), (2, .ref (g.2.1 11)), (3, .int l3)] 1058 [] := by
  refine j_aload_n (pc' := 1059) hκ 1 rfl rfl dL_law_1058 rfl ?_
  refine jx_callVl (pc' := 1062) hκ (c_LR_bound (dg hκ) h) rfl rfl rfl (gVa wm_37_15 wm_37_16 wm_37_17 wm_1_2 wm_37_18) hqV_X9_bound ⟨Nat.le_of_ble_eq_true rfl, Nat.le_of_ble_eq_true rfl⟩ (wg_0 g _ _) rfl rfl rfl (Nat.le_of_ble_eq_true rfl) dL_law_1059 rfl (fun r1 X1 h => ?_)
  refine j_aload_n (pc' := 1063) hκ 2 rfl rfl dL_law_1062 rfl ?_
  refine jm_callVl (pc' := 1066) hκ (c_m_bound (dg hκ) h) rfl rfl rfl (gVa wm_37_20 wm_37_21 wm_37_22 wm_1_5 wm_37_23) hqV_X10_bound ⟨Nat.le_of_ble_eq_true rfl, Nat.le_of_ble_eq_true rfl⟩ (wg_11 g _ _) rfl rfl rfl (Nat.le_of_ble_eq_true rfl) dL_law_1063 rfl (fun r2 M1 h => ?_)
  refine j_lc_eq (tgt := 1293) (pc1 := 1067) (pc' := 1070) hκ dL_law_1066 rfl dL_law_1067 (by decide) rfl (fun _ => ?_) (fun c9 => absurd h.1 c9)
  exact hrec _ _ h.2
theorem wm_38_1 : Cond.methodLink RL 137 yX9_taken ∈ wAll := inr_38 (List.mem_of_getElem? (i := 1) rfl)
theorem wm_38_2 : Cond.instanceMethod yX9_taken ∈ wAll := inr_38 (List.mem_of_getElem? (i := 2) rfl)
theorem wm_38_3 : Cond.selects RX9 yX9_taken yX9_taken ∈ wAll := inr_38 (List.mem_of_getElem? (i := 3) rfl)
theorem wm_38_4 : Cond.code yX9_taken cX9_taken 2 (some .int) ∈ wAll := inr_38 (List.mem_of_getElem? (i := 4) rfl)
theorem hqV_X9_taken : yX9_taken.cls = RX9 ∧ yX9_taken.cls ≠ "java/lang/invoke/MethodHandle" ∧ yX9_taken.cls ≠ "java/lang/invoke/VarHandle" ∧ (parseMethodDescriptor yX9_taken.desc).map (fun d => d.parameters.length) = some 1 := by decide +kernel
theorem wm_38_5 : Cond.methodLink RL 140 yX10_taken ∈ wAll := inr_38 (List.mem_of_getElem? (i := 5) rfl)
theorem wm_38_6 : Cond.instanceMethod yX10_taken ∈ wAll := inr_38 (List.mem_of_getElem? (i := 6) rfl)
theorem wm_38_7 : Cond.selects RX10 yX10_taken yX10_taken ∈ wAll := inr_38 (List.mem_of_getElem? (i := 7) rfl)
theorem wm_38_8 : Cond.code yX10_taken cX10_taken 4 (some .int) ∈ wAll := inr_38 (List.mem_of_getElem? (i := 8) rfl)
theorem hqV_X10_taken : yX10_taken.cls = RX10 ∧ yX10_taken.cls ≠ "java/lang/invoke/MethodHandle" ∧ yX10_taken.cls ≠ "java/lang/invoke/VarHandle" ∧ (parseMethodDescriptor yX10_taken.desc).map (fun d => d.parameters.length) = some 1 := by decide +kernel
set_option maxHeartbeats 4000000 in
set_option maxRecDepth 100000 in
theorem law_taken {κ : Cx} {g : Gx} (hκ : CF κ g RL cL_law wAll 4 room_1) {b L : Nat} {xs : Nat → Int32} (hsc : SC κ b L xs) {Inv : ST → ST → Prop} {X M : ST} {l3 : Int32} (hv1 : vp_in (l3 + 1) L) (hv2 : vp_in (l3 + 2) L) (hv3 : vp_in (l3 + 3) L) (hv4 : vp_in (l3 + 4) L) (h : wp_LR_taken X (xs (l3 + 1).toNatClampNeg) (fun r X1 => wp_m_taken M (xs (l3 + 1).toNatClampNeg) (fun q M1 => r = q ∧ Inv X1 M1))) (hrec : ∀ X M, Inv X M → Jw κ g 4 X M [(0, .ref b), (1, .ref (g.2.1 0)), (2, .ref (g.2.1 11)), (3, .int l3)] 1293 []) : Jw κ g 4 X M [(0, .ref b), (1, .ref (g.2.1 0)), (2, .ref (g.2.1 11)), (3, .int l3)] 1072 [] := by
  refine j_aload_n (pc' := 1073) hκ 1 rfl rfl dL_law_1072 rfl ?_
  refine j_aload_n (pc' := 1074) hκ 0 rfl rfl dL_law_1073 rfl ?_
  refine j_iload_n (pc' := 1075) hκ 3 rfl rfl dL_law_1074 rfl ?_
  refine j_iconst (pc' := 1076) (v := 1) hκ (by decide) dL_law_1075 rfl ?_
  refine j_iadd (pc' := 1077) hκ dL_law_1076 rfl ?_
  refine j_sld (pc' := 1078) hκ hsc hv1 dL_law_1077 rfl ?_
  refine jx_callVi (pc' := 1081) hκ (c_LR_taken (dg hκ) h) rfl rfl rfl (gVa wm_38_1 wm_38_2 wm_38_3 wm_1_2 wm_38_4) hqV_X9_taken ⟨Nat.le_of_ble_eq_true rfl, Nat.le_of_ble_eq_true rfl⟩ (wg_0 g _ _) rfl rfl rfl (Nat.le_of_ble_eq_true rfl) dL_law_1078 rfl (fun r1 X1 h => ?_)
  refine j_aload_n (pc' := 1082) hκ 2 rfl rfl dL_law_1081 rfl ?_
  refine j_aload_n (pc' := 1083) hκ 0 rfl rfl dL_law_1082 rfl ?_
  refine j_iload_n (pc' := 1084) hκ 3 rfl rfl dL_law_1083 rfl ?_
  refine j_iconst (pc' := 1085) (v := 1) hκ (by decide) dL_law_1084 rfl ?_
  refine j_iadd (pc' := 1086) hκ dL_law_1085 rfl ?_
  refine j_sld (pc' := 1087) hκ hsc hv1 dL_law_1086 rfl ?_
  refine jm_callVi (pc' := 1090) hκ (c_m_taken (dg hκ) h) rfl rfl rfl (gVa wm_38_5 wm_38_6 wm_38_7 wm_1_5 wm_38_8) hqV_X10_taken ⟨Nat.le_of_ble_eq_true rfl, Nat.le_of_ble_eq_true rfl⟩ (wg_11 g _ _) rfl rfl rfl (Nat.le_of_ble_eq_true rfl) dL_law_1087 rfl (fun r2 M1 h => ?_)
  refine j_icmp_eq (tgt := 1293) (pc' := 1093) hκ dL_law_1090 (by decide) rfl (fun _ => ?_) (fun c9 => absurd h.1 c9)
  exact hrec _ _ h.2
theorem wm_38_9 : Cond.methodLink RL 141 yX9_prove ∈ wAll := inr_38 (List.mem_of_getElem? (i := 9) rfl)
theorem wm_38_10 : Cond.instanceMethod yX9_prove ∈ wAll := inr_38 (List.mem_of_getElem? (i := 10) rfl)
theorem wm_38_11 : Cond.selects RX9 yX9_prove yX9_prove ∈ wAll := inr_38 (List.mem_of_getElem? (i := 11) rfl)
theorem wm_38_12 : Cond.code yX9_prove cX9_prove 2 (some .int) ∈ wAll := inr_38 (List.mem_of_getElem? (i := 12) rfl)
theorem hqV_X9_prove : yX9_prove.cls = RX9 ∧ yX9_prove.cls ≠ "java/lang/invoke/MethodHandle" ∧ yX9_prove.cls ≠ "java/lang/invoke/VarHandle" ∧ (parseMethodDescriptor yX9_prove.desc).map (fun d => d.parameters.length) = some 1 := by decide +kernel
theorem wm_41_19 : Cond.methodLink RL 144 yX10_prove ∈ wAll := inr_41 (List.mem_of_getElem? (i := 19) rfl)
theorem wm_41_20 : Cond.instanceMethod yX10_prove ∈ wAll := inr_41 (List.mem_of_getElem? (i := 20) rfl)
theorem wm_41_21 : Cond.selects RX10 yX10_prove yX10_prove ∈ wAll := inr_41 (List.mem_of_getElem? (i := 21) rfl)
theorem wm_41_22 : Cond.code yX10_prove cX10_prove 4 (some .int) ∈ wAll := inr_41 (List.mem_of_getElem? (i := 22) rfl)
theorem hqV_X10_prove : yX10_prove.cls = RX10 ∧ yX10_prove.cls ≠ "java/lang/invoke/MethodHandle" ∧ yX10_prove.cls ≠ "java/lang/invoke/VarHandle" ∧ (parseMethodDescriptor yX10_prove.desc).map (fun d => d.parameters.length) = some 1 := by decide +kernel
set_option maxHeartbeats 4000000 in
set_option maxRecDepth 100000 in
theorem law_prove {κ : Cx} {g : Gx} (hκ : CF κ g RL cL_law wAll 4 room_1) {b L : Nat} {xs : Nat → Int32} (hsc : SC κ b L xs) {Inv : ST → ST → Prop} {X M : ST} {l3 : Int32} (hv1 : vp_in (l3 + 1) L) (hv2 : vp_in (l3 + 2) L) (hv3 : vp_in (l3 + 3) L) (hv4 : vp_in (l3 + 4) L) (h : wp_LR_prove X (xs (l3 + 1).toNatClampNeg) (fun r X1 => wp_m_prove M (xs (l3 + 1).toNatClampNeg) (fun q M1 => r = q ∧ Inv X1 M1))) (hrec : ∀ X M, Inv X M → Jw κ g 4 X M [(0, .ref b), (1, .ref (g.2.1 0)), (2, .ref (g.2.1 11)), (3, .int l3)] 1293 []) : Jw κ g 4 X M [(0, .ref b), (1, .ref (g.2.1 0)), (2, .ref (g.2.1 11)), (3, .int l3)] 1095 [] := by
  refine j_aload_n (pc' := 1096) hκ 1 rfl rfl dL_law_1095 rfl ?_
  refine j_aload_n (pc' := 1097) hκ 0 rfl rfl dL_law_1096 rfl ?_
  refine j_iload_n (pc' := 1098) hκ 3 rfl rfl dL_law_1097 rfl ?_
  refine j_iconst (pc' := 1099) (v := 1) hκ (by decide) dL_law_1098 rfl ?_
  refine j_iadd (pc' := 1100) hκ dL_law_1099 rfl ?_
  refine j_sld (pc' := 1101) hκ hsc hv1 dL_law_1100 rfl ?_
  refine jx_callVi (pc' := 1104) hκ (c_LR_prove (dg hκ) h) rfl rfl rfl (gVa wm_38_9 wm_38_10 wm_38_11 wm_1_2 wm_38_12) hqV_X9_prove ⟨Nat.le_of_ble_eq_true rfl, Nat.le_of_ble_eq_true rfl⟩ (wg_0 g _ _) rfl rfl rfl (Nat.le_of_ble_eq_true rfl) dL_law_1101 rfl (fun r1 X1 h => ?_)
  refine j_aload_n (pc' := 1105) hκ 2 rfl rfl dL_law_1104 rfl ?_
  refine j_aload_n (pc' := 1106) hκ 0 rfl rfl dL_law_1105 rfl ?_
  refine j_iload_n (pc' := 1107) hκ 3 rfl rfl dL_law_1106 rfl ?_
  refine j_iconst (pc' := 1108) (v := 1) hκ (by decide) dL_law_1107 rfl ?_
  refine j_iadd (pc' := 1109) hκ dL_law_1108 rfl ?_
  refine j_sld (pc' := 1110) hκ hsc hv1 dL_law_1109 rfl ?_
  refine jm_callVi (pc' := 1113) hκ (c_m_prove (dg hκ) h) rfl rfl rfl (gVa wm_41_19 wm_41_20 wm_41_21 wm_1_5 wm_41_22) hqV_X10_prove ⟨Nat.le_of_ble_eq_true rfl, Nat.le_of_ble_eq_true rfl⟩ (wg_11 g _ _) rfl rfl rfl (Nat.le_of_ble_eq_true rfl) dL_law_1110 rfl (fun r2 M1 h => ?_)
  refine j_icmp_eq (tgt := 1293) (pc' := 1116) hκ dL_law_1113 (by decide) rfl (fun _ => ?_) (fun c9 => absurd h.1 c9)
  exact hrec _ _ h.2
theorem wm_44_8 : Cond.methodLink RL 145 yX9_line ∈ wAll := inr_44 (List.mem_of_getElem? (i := 8) rfl)
theorem wm_44_9 : Cond.instanceMethod yX9_line ∈ wAll := inr_44 (List.mem_of_getElem? (i := 9) rfl)
theorem wm_44_10 : Cond.selects RX9 yX9_line yX9_line ∈ wAll := inr_44 (List.mem_of_getElem? (i := 10) rfl)
theorem wm_44_11 : Cond.code yX9_line cX9_line 4 (some .int) ∈ wAll := inr_44 (List.mem_of_getElem? (i := 11) rfl)
theorem hqV_X9_line : yX9_line.cls = RX9 ∧ yX9_line.cls ≠ "java/lang/invoke/MethodHandle" ∧ yX9_line.cls ≠ "java/lang/invoke/VarHandle" ∧ (parseMethodDescriptor yX9_line.desc).map (fun d => d.parameters.length) = some 3 := by decide +kernel
theorem wm_44_16 : Cond.methodLink RL 148 yX10_line ∈ wAll := inr_44 (List.mem_of_getElem? (i := 16) rfl)
theorem wm_44_17 : Cond.instanceMethod yX10_line ∈ wAll := inr_44 (List.mem_of_getElem? (i := 17) rfl)
theorem wm_44_18 : Cond.selects RX10 yX10_line yX10_line ∈ wAll := inr_44 (List.mem_of_getElem? (i := 18) rfl)
theorem wm_44_19 : Cond.code yX10_line cX10_line 4 (some .int) ∈ wAll := inr_44 (List.mem_of_getElem? (i := 19) rfl)
theorem hqV_X10_line : yX10_line.cls = RX10 ∧ yX10_line.cls ≠ "java/lang/invoke/MethodHandle" ∧ yX10_line.cls ≠ "java/lang/invoke/VarHandle" ∧ (parseMethodDescriptor yX10_line.desc).map (fun d => d.parameters.length) = some 3 := by decide +kernel
set_option maxHeartbeats 4000000 in
set_option maxRecDepth 100000 in
theorem law_line {κ : Cx} {g : Gx} (hκ : CF κ g RL cL_law wAll 4 room_1) {b L : Nat} {xs : Nat → Int32} (hsc : SC κ b L xs) {Inv : ST → ST → Prop} {X M : ST} {l3 : Int32} (hv1 : vp_in (l3 + 1) L) (hv2 : vp_in (l3 + 2) L) (hv3 : vp_in (l3 + 3) L) (hv4 : vp_in (l3 + 4) L) (h : wp_LR_line X (xs (l3 + 1).toNatClampNeg) (xs (l3 + 2).toNatClampNeg) (xs (l3 + 3).toNatClampNeg) (fun r X1 => wp_m_line M (xs (l3 + 1).toNatClampNeg) (xs (l3 + 2).toNatClampNeg) (xs (l3 + 3).toNatClampNeg) (fun q M1 => r = q ∧ Inv X1 M1))) (hrec : ∀ X M, Inv X M → Jw κ g 4 X M [(0, .ref b), (1, .ref (g.2.1 0)), (2, .ref (g.2.1 11)), (3, .int l3)] 1293 []) : Jw κ g 4 X M [(0, .ref b), (1, .ref (g.2.1 0)), (2, .ref (g.2.1 11)), (3, .int l3)] 1118 [] := by
  refine j_aload_n (pc' := 1119) hκ 1 rfl rfl dL_law_1118 rfl ?_
  refine j_aload_n (pc' := 1120) hκ 0 rfl rfl dL_law_1119 rfl ?_
  refine j_iload_n (pc' := 1121) hκ 3 rfl rfl dL_law_1120 rfl ?_
  refine j_iconst (pc' := 1122) (v := 1) hκ (by decide) dL_law_1121 rfl ?_
  refine j_iadd (pc' := 1123) hκ dL_law_1122 rfl ?_
  refine j_sld (pc' := 1124) hκ hsc hv1 dL_law_1123 rfl ?_
  refine j_aload_n (pc' := 1125) hκ 0 rfl rfl dL_law_1124 rfl ?_
  refine j_iload_n (pc' := 1126) hκ 3 rfl rfl dL_law_1125 rfl ?_
  refine j_iconst (pc' := 1127) (v := 2) hκ (by decide) dL_law_1126 rfl ?_
  refine j_iadd (pc' := 1128) hκ dL_law_1127 rfl ?_
  refine j_sld (pc' := 1129) hκ hsc hv2 dL_law_1128 rfl ?_
  refine j_aload_n (pc' := 1130) hκ 0 rfl rfl dL_law_1129 rfl ?_
  refine j_iload_n (pc' := 1131) hκ 3 rfl rfl dL_law_1130 rfl ?_
  refine j_iconst (pc' := 1132) (v := 3) hκ (by decide) dL_law_1131 rfl ?_
  refine j_iadd (pc' := 1133) hκ dL_law_1132 rfl ?_
  refine j_sld (pc' := 1134) hκ hsc hv3 dL_law_1133 rfl ?_
  refine jx_callVi (pc' := 1137) hκ (c_LR_line (dg hκ) h) rfl rfl rfl (gVa wm_44_8 wm_44_9 wm_44_10 wm_1_2 wm_44_11) hqV_X9_line ⟨Nat.le_of_ble_eq_true rfl, Nat.le_of_ble_eq_true rfl⟩ (wg_0 g _ _) rfl rfl rfl (Nat.le_of_ble_eq_true rfl) dL_law_1134 rfl (fun r1 X1 h => ?_)
  refine j_aload_n (pc' := 1138) hκ 2 rfl rfl dL_law_1137 rfl ?_
  refine j_aload_n (pc' := 1139) hκ 0 rfl rfl dL_law_1138 rfl ?_
  refine j_iload_n (pc' := 1140) hκ 3 rfl rfl dL_law_1139 rfl ?_
  refine j_iconst (pc' := 1141) (v := 1) hκ (by decide) dL_law_1140 rfl ?_
  refine j_iadd (pc' := 1142) hκ dL_law_1141 rfl ?_
  refine j_sld (pc' := 1143) hκ hsc hv1 dL_law_1142 rfl ?_
  refine j_aload_n (pc' := 1144) hκ 0 rfl rfl dL_law_1143 rfl ?_
  refine j_iload_n (pc' := 1145) hκ 3 rfl rfl dL_law_1144 rfl ?_
  refine j_iconst (pc' := 1146) (v := 2) hκ (by decide) dL_law_1145 rfl ?_
  refine j_iadd (pc' := 1147) hκ dL_law_1146 rfl ?_
  refine j_sld (pc' := 1148) hκ hsc hv2 dL_law_1147 rfl ?_
  refine j_aload_n (pc' := 1149) hκ 0 rfl rfl dL_law_1148 rfl ?_
  refine j_iload_n (pc' := 1150) hκ 3 rfl rfl dL_law_1149 rfl ?_
  refine j_iconst (pc' := 1151) (v := 3) hκ (by decide) dL_law_1150 rfl ?_
  refine j_iadd (pc' := 1152) hκ dL_law_1151 rfl ?_
  refine j_sld (pc' := 1153) hκ hsc hv3 dL_law_1152 rfl ?_
  refine jm_callVi (pc' := 1156) hκ (c_m_line (dg hκ) h) rfl rfl rfl (gVa wm_44_16 wm_44_17 wm_44_18 wm_1_5 wm_44_19) hqV_X10_line ⟨Nat.le_of_ble_eq_true rfl, Nat.le_of_ble_eq_true rfl⟩ (wg_11 g _ _) rfl rfl rfl (Nat.le_of_ble_eq_true rfl) dL_law_1153 rfl (fun r2 M1 h => ?_)
  refine j_icmp_eq (tgt := 1293) (pc' := 1159) hκ dL_law_1156 (by decide) rfl (fun _ => ?_) (fun c9 => absurd h.1 c9)
  exact hrec _ _ h.2
theorem wm_45_0 : Cond.methodLink RL 149 yX9_alter ∈ wAll := inr_45 (List.mem_of_getElem? (i := 0) rfl)
theorem wm_45_1 : Cond.instanceMethod yX9_alter ∈ wAll := inr_45 (List.mem_of_getElem? (i := 1) rfl)
theorem wm_45_2 : Cond.selects RX9 yX9_alter yX9_alter ∈ wAll := inr_45 (List.mem_of_getElem? (i := 2) rfl)
theorem wm_45_3 : Cond.code yX9_alter cX9_alter 5 (some .int) ∈ wAll := inr_45 (List.mem_of_getElem? (i := 3) rfl)
theorem hqV_X9_alter : yX9_alter.cls = RX9 ∧ yX9_alter.cls ≠ "java/lang/invoke/MethodHandle" ∧ yX9_alter.cls ≠ "java/lang/invoke/VarHandle" ∧ (parseMethodDescriptor yX9_alter.desc).map (fun d => d.parameters.length) = some 4 := by decide +kernel
theorem wm_45_9 : Cond.methodLink RL 152 yX10_alter ∈ wAll := inr_45 (List.mem_of_getElem? (i := 9) rfl)
set_option maxHeartbeats 4000000 in
set_option maxRecDepth 100000 in
theorem law_alter {κ : Cx} {g : Gx} (hκ : CF κ g RL cL_law wAll 4 room_1) {b L : Nat} {xs : Nat → Int32} (hsc : SC κ b L xs) {Inv : ST → ST → Prop} {X M : ST} {l3 : Int32} (hv1 : vp_in (l3 + 1) L) (hv2 : vp_in (l3 + 2) L) (hv3 : vp_in (l3 + 3) L) (hv4 : vp_in (l3 + 4) L) (h : wp_LR_alter X (xs (l3 + 1).toNatClampNeg) (xs (l3 + 2).toNatClampNeg) (xs (l3 + 3).toNatClampNeg) (xs (l3 + 4).toNatClampNeg) (fun r X1 => wp_m_alter M (xs (l3 + 1).toNatClampNeg) (xs (l3 + 2).toNatClampNeg) (xs (l3 + 3).toNatClampNeg) (xs (l3 + 4).toNatClampNeg) (fun q M1 => r = q ∧ Inv X1 M1))) (hrec : ∀ X M, Inv X M → Jw κ g 4 X M [(0, .ref b), (1, .ref (g.2.1 0)), (2, .ref (g.2.1 11)), (3, .int l3)] 1293 []) : Jw κ g 4 X M [(0, .ref b), (1, .ref (g.2.1 0)), (2, .ref (g.2.1 11)), (3, .int l3)] 1161 [] := by
  refine j_aload_n (pc' := 1162) hκ 1 rfl rfl dL_law_1161 rfl ?_
  refine j_aload_n (pc' := 1163) hκ 0 rfl rfl dL_law_1162 rfl ?_
  refine j_iload_n (pc' := 1164) hκ 3 rfl rfl dL_law_1163 rfl ?_
  refine j_iconst (pc' := 1165) (v := 1) hκ (by decide) dL_law_1164 rfl ?_
  refine j_iadd (pc' := 1166) hκ dL_law_1165 rfl ?_
  refine j_sld (pc' := 1167) hκ hsc hv1 dL_law_1166 rfl ?_
  refine j_aload_n (pc' := 1168) hκ 0 rfl rfl dL_law_1167 rfl ?_
  refine j_iload_n (pc' := 1169) hκ 3 rfl rfl dL_law_1168 rfl ?_
  refine j_iconst (pc' := 1170) (v := 2) hκ (by decide) dL_law_1169 rfl ?_
  refine j_iadd (pc' := 1171) hκ dL_law_1170 rfl ?_
  refine j_sld (pc' := 1172) hκ hsc hv2 dL_law_1171 rfl ?_
  refine j_aload_n (pc' := 1173) hκ 0 rfl rfl dL_law_1172 rfl ?_
  refine j_iload_n (pc' := 1174) hκ 3 rfl rfl dL_law_1173 rfl ?_
  refine j_iconst (pc' := 1175) (v := 3) hκ (by decide) dL_law_1174 rfl ?_
  refine j_iadd (pc' := 1176) hκ dL_law_1175 rfl ?_
  refine j_sld (pc' := 1177) hκ hsc hv3 dL_law_1176 rfl ?_
  refine j_aload_n (pc' := 1178) hκ 0 rfl rfl dL_law_1177 rfl ?_
  refine j_iload_n (pc' := 1179) hκ 3 rfl rfl dL_law_1178 rfl ?_
  refine j_iconst (pc' := 1180) (v := 4) hκ (by decide) dL_law_1179 rfl ?_
  refine j_iadd (pc' := 1181) hκ dL_law_1180 rfl ?_
  refine j_sld (pc' := 1182) hκ hsc hv4 dL_law_1181 rfl ?_
  refine jx_callVi (pc' := 1185) hκ (c_LR_alter (dg hκ) h) rfl rfl rfl (gVa wm_45_0 wm_45_1 wm_45_2 wm_1_2 wm_45_3) hqV_X9_alter ⟨Nat.le_of_ble_eq_true rfl, Nat.le_of_ble_eq_true rfl⟩ (wg_0 g _ _) rfl rfl rfl (Nat.le_of_ble_eq_true rfl) dL_law_1182 rfl (fun r1 X1 h => ?_)
  refine j_aload_n (pc' := 1186) hκ 2 rfl rfl dL_law_1185 rfl ?_
  refine j_aload_n (pc' := 1187) hκ 0 rfl rfl dL_law_1186 rfl ?_
  refine j_iload_n (pc' := 1188) hκ 3 rfl rfl dL_law_1187 rfl ?_
  refine j_iconst (pc' := 1189) (v := 1) hκ (by decide) dL_law_1188 rfl ?_
  refine j_iadd (pc' := 1190) hκ dL_law_1189 rfl ?_
  refine j_sld (pc' := 1191) hκ hsc hv1 dL_law_1190 rfl ?_
  refine j_aload_n (pc' := 1192) hκ 0 rfl rfl dL_law_1191 rfl ?_
  refine j_iload_n (pc' := 1193) hκ 3 rfl rfl dL_law_1192 rfl ?_
  refine j_iconst (pc' := 1194) (v := 2) hκ (by decide) dL_law_1193 rfl ?_
  refine j_iadd (pc' := 1195) hκ dL_law_1194 rfl ?_
  refine j_sld (pc' := 1196) hκ hsc hv2 dL_law_1195 rfl ?_
  refine j_aload_n (pc' := 1197) hκ 0 rfl rfl dL_law_1196 rfl ?_
  refine j_iload_n (pc' := 1198) hκ 3 rfl rfl dL_law_1197 rfl ?_
  refine j_iconst (pc' := 1199) (v := 3) hκ (by decide) dL_law_1198 rfl ?_
  refine j_iadd (pc' := 1200) hκ dL_law_1199 rfl ?_
  refine j_sld (pc' := 1201) hκ hsc hv3 dL_law_1200 rfl ?_
  refine j_aload_n (pc' := 1202) hκ 0 rfl rfl dL_law_1201 rfl ?_
  refine j_iload_n (pc' := 1203) hκ 3 rfl rfl dL_law_1202 rfl ?_
  refine j_iconst (pc' := 1204) (v := 4) hκ (by decide) dL_law_1203 rfl ?_
  refine j_iadd (pc' := 1205) hκ dL_law_1204 rfl ?_
  refine j_sld (pc' := 1206) hκ hsc hv4 dL_law_1205 rfl ?_
  refine jm_callVi (pc' := 1209) hκ (c_m_alter (dg hκ) h) rfl rfl rfl (gVa wm_45_9 wm_44_21 wm_44_22 wm_1_5 wm_44_23) hqV_X10_alter ⟨Nat.le_of_ble_eq_true rfl, Nat.le_of_ble_eq_true rfl⟩ (wg_11 g _ _) rfl rfl rfl (Nat.le_of_ble_eq_true rfl) dL_law_1206 rfl (fun r2 M1 h => ?_)
  refine j_icmp_eq (tgt := 1293) (pc' := 1212) hκ dL_law_1209 (by decide) rfl (fun _ => ?_) (fun c9 => absurd h.1 c9)
  exact hrec _ _ h.2
theorem wm_45_10 : Cond.methodLink RL 153 yX9_cut ∈ wAll := inr_45 (List.mem_of_getElem? (i := 10) rfl)
theorem wm_45_11 : Cond.instanceMethod yX9_cut ∈ wAll := inr_45 (List.mem_of_getElem? (i := 11) rfl)
theorem wm_45_12 : Cond.selects RX9 yX9_cut yX9_cut ∈ wAll := inr_45 (List.mem_of_getElem? (i := 12) rfl)
theorem wm_45_13 : Cond.code yX9_cut cX9_cut 2 (some .int) ∈ wAll := inr_45 (List.mem_of_getElem? (i := 13) rfl)
theorem hqV_X9_cut : yX9_cut.cls = RX9 ∧ yX9_cut.cls ≠ "java/lang/invoke/MethodHandle" ∧ yX9_cut.cls ≠ "java/lang/invoke/VarHandle" ∧ (parseMethodDescriptor yX9_cut.desc).map (fun d => d.parameters.length) = some 1 := by decide +kernel
theorem wm_45_14 : Cond.methodLink RL 156 yX10_cut ∈ wAll := inr_45 (List.mem_of_getElem? (i := 14) rfl)
theorem wm_45_15 : Cond.instanceMethod yX10_cut ∈ wAll := inr_45 (List.mem_of_getElem? (i := 15) rfl)
theorem wm_45_16 : Cond.selects RX10 yX10_cut yX10_cut ∈ wAll := inr_45 (List.mem_of_getElem? (i := 16) rfl)
theorem wm_45_17 : Cond.code yX10_cut cX10_cut 2 (some .int) ∈ wAll := inr_45 (List.mem_of_getElem? (i := 17) rfl)
theorem hqV_X10_cut : yX10_cut.cls = RX10 ∧ yX10_cut.cls ≠ "java/lang/invoke/MethodHandle" ∧ yX10_cut.cls ≠ "java/lang/invoke/VarHandle" ∧ (parseMethodDescriptor yX10_cut.desc).map (fun d => d.parameters.length) = some 1 := by decide +kernel
set_option maxHeartbeats 4000000 in
set_option maxRecDepth 100000 in
theorem law_cut {κ : Cx} {g : Gx} (hκ : CF κ g RL cL_law wAll 4 room_1) {b L : Nat} {xs : Nat → Int32} (hsc : SC κ b L xs) {Inv : ST → ST → Prop} {X M : ST} {l3 : Int32} (hv1 : vp_in (l3 + 1) L) (hv2 : vp_in (l3 + 2) L) (hv3 : vp_in (l3 + 3) L) (hv4 : vp_in (l3 + 4) L) (h : wp_LR_cut X (xs (l3 + 1).toNatClampNeg) (fun r X1 => wp_m_cut M (xs (l3 + 1).toNatClampNeg) (fun q M1 => r = q ∧ Inv X1 M1))) (hrec : ∀ X M, Inv X M → Jw κ g 4 X M [(0, .ref b), (1, .ref (g.2.1 0)), (2, .ref (g.2.1 11)), (3, .int l3)] 1293 []) : Jw κ g 4 X M [(0, .ref b), (1, .ref (g.2.1 0)), (2, .ref (g.2.1 11)), (3, .int l3)] 1214 [] := by
  refine j_aload_n (pc' := 1215) hκ 1 rfl rfl dL_law_1214 rfl ?_
  refine j_aload_n (pc' := 1216) hκ 0 rfl rfl dL_law_1215 rfl ?_
  refine j_iload_n (pc' := 1217) hκ 3 rfl rfl dL_law_1216 rfl ?_
  refine j_iconst (pc' := 1218) (v := 1) hκ (by decide) dL_law_1217 rfl ?_
  refine j_iadd (pc' := 1219) hκ dL_law_1218 rfl ?_
  refine j_sld (pc' := 1220) hκ hsc hv1 dL_law_1219 rfl ?_
  refine jx_callVi (pc' := 1223) hκ (c_LR_cut (dg hκ) h) rfl rfl rfl (gVa wm_45_10 wm_45_11 wm_45_12 wm_1_2 wm_45_13) hqV_X9_cut ⟨Nat.le_of_ble_eq_true rfl, Nat.le_of_ble_eq_true rfl⟩ (wg_0 g _ _) rfl rfl rfl (Nat.le_of_ble_eq_true rfl) dL_law_1220 rfl (fun r1 X1 h => ?_)
  refine j_aload_n (pc' := 1224) hκ 2 rfl rfl dL_law_1223 rfl ?_
  refine j_aload_n (pc' := 1225) hκ 0 rfl rfl dL_law_1224 rfl ?_
  refine j_iload_n (pc' := 1226) hκ 3 rfl rfl dL_law_1225 rfl ?_
  refine j_iconst (pc' := 1227) (v := 1) hκ (by decide) dL_law_1226 rfl ?_
  refine j_iadd (pc' := 1228) hκ dL_law_1227 rfl ?_
  refine j_sld (pc' := 1229) hκ hsc hv1 dL_law_1228 rfl ?_
  refine jm_callVi (pc' := 1232) hκ (c_m_cut (dg hκ) h) rfl rfl rfl (gVa wm_45_14 wm_45_15 wm_45_16 wm_1_5 wm_45_17) hqV_X10_cut ⟨Nat.le_of_ble_eq_true rfl, Nat.le_of_ble_eq_true rfl⟩ (wg_11 g _ _) rfl rfl rfl (Nat.le_of_ble_eq_true rfl) dL_law_1229 rfl (fun r2 M1 h => ?_)
  refine j_icmp_eq (tgt := 1293) (pc' := 1235) hκ dL_law_1232 (by decide) rfl (fun _ => ?_) (fun c9 => absurd h.1 c9)
  exact hrec _ _ h.2
theorem wm_45_18 : Cond.methodLink RL 157 yX9_shown ∈ wAll := inr_45 (List.mem_of_getElem? (i := 18) rfl)
theorem wm_45_19 : Cond.instanceMethod yX9_shown ∈ wAll := inr_45 (List.mem_of_getElem? (i := 19) rfl)
theorem wm_45_20 : Cond.selects RX9 yX9_shown yX9_shown ∈ wAll := inr_45 (List.mem_of_getElem? (i := 20) rfl)
theorem wm_45_21 : Cond.code yX9_shown cX9_shown 3 (some .int) ∈ wAll := inr_45 (List.mem_of_getElem? (i := 21) rfl)
theorem hqV_X9_shown : yX9_shown.cls = RX9 ∧ yX9_shown.cls ≠ "java/lang/invoke/MethodHandle" ∧ yX9_shown.cls ≠ "java/lang/invoke/VarHandle" ∧ (parseMethodDescriptor yX9_shown.desc).map (fun d => d.parameters.length) = some 2 := by decide +kernel
theorem wm_45_22 : Cond.methodLink RL 160 yX10_shown ∈ wAll := inr_45 (List.mem_of_getElem? (i := 22) rfl)
theorem wm_45_23 : Cond.instanceMethod yX10_shown ∈ wAll := inr_45 (List.mem_of_getElem? (i := 23) rfl)
theorem wm_46_0 : Cond.selects RX10 yX10_shown yX10_shown ∈ wAll := inr_46 (List.mem_of_getElem? (i := 0) rfl)
theorem wm_46_1 : Cond.code yX10_shown cX10_shown 3 (some .int) ∈ wAll := inr_46 (List.mem_of_getElem? (i := 1) rfl)
theorem hqV_X10_shown : yX10_shown.cls = RX10 ∧ yX10_shown.cls ≠ "java/lang/invoke/MethodHandle" ∧ yX10_shown.cls ≠ "java/lang/invoke/VarHandle" ∧ (parseMethodDescriptor yX10_shown.desc).map (fun d => d.parameters.length) = some 2 := by decide +kernel
set_option maxHeartbeats 4000000 in
set_option maxRecDepth 100000 in
theorem law_shown {κ : Cx} {g : Gx} (hκ : CF κ g RL cL_law wAll 4 room_1) {b L : Nat} {xs : Nat → Int32} (hsc : SC κ b L xs) {Inv : ST → ST → Prop} {X M : ST} {l3 : Int32} (hv1 : vp_in (l3 + 1) L) (hv2 : vp_in (l3 + 2) L) (hv3 : vp_in (l3 + 3) L) (hv4 : vp_in (l3 + 4) L) (h : wp_LR_shown X (xs (l3 + 1).toNatClampNeg) (xs (l3 + 2).toNatClampNeg) (fun r X1 => wp_m_shown M (xs (l3 + 1).toNatClampNeg) (xs (l3 + 2).toNatClampNeg) (fun q M1 => r = q ∧ Inv X1 M1))) (hrec : ∀ X M, Inv X M → Jw κ g 4 X M [(0, .ref b), (1, .ref (g.2.1 0)), (2, .ref (g.2.1 11)), (3, .int l3)] 1293 []) : Jw κ g 4 X M [(0, .ref b), (1, .ref (g.2.1 0)), (2, .ref (g.2.1 11)), (3, .int l3)] 1237 [] := by
  refine j_aload_n (pc' := 1238) hκ 1 rfl rfl dL_law_1237 rfl ?_
  refine j_aload_n (pc' := 1239) hκ 0 rfl rfl dL_law_1238 rfl ?_
  refine j_iload_n (pc' := 1240) hκ 3 rfl rfl dL_law_1239 rfl ?_
  refine j_iconst (pc' := 1241) (v := 1) hκ (by decide) dL_law_1240 rfl ?_
  refine j_iadd (pc' := 1242) hκ dL_law_1241 rfl ?_
  refine j_sld (pc' := 1243) hκ hsc hv1 dL_law_1242 rfl ?_
  refine j_aload_n (pc' := 1244) hκ 0 rfl rfl dL_law_1243 rfl ?_
  refine j_iload_n (pc' := 1245) hκ 3 rfl rfl dL_law_1244 rfl ?_
  refine j_iconst (pc' := 1246) (v := 2) hκ (by decide) dL_law_1245 rfl ?_
  refine j_iadd (pc' := 1247) hκ dL_law_1246 rfl ?_
  refine j_sld (pc' := 1248) hκ hsc hv2 dL_law_1247 rfl ?_
  refine jx_callVi (pc' := 1251) hκ (c_LR_shown (dg hκ) h) rfl rfl rfl (gVa wm_45_18 wm_45_19 wm_45_20 wm_1_2 wm_45_21) hqV_X9_shown ⟨Nat.le_of_ble_eq_true rfl, Nat.le_of_ble_eq_true rfl⟩ (wg_0 g _ _) rfl rfl rfl (Nat.le_of_ble_eq_true rfl) dL_law_1248 rfl (fun r1 X1 h => ?_)
  refine j_aload_n (pc' := 1252) hκ 2 rfl rfl dL_law_1251 rfl ?_
  refine j_aload_n (pc' := 1253) hκ 0 rfl rfl dL_law_1252 rfl ?_
  refine j_iload_n (pc' := 1254) hκ 3 rfl rfl dL_law_1253 rfl ?_
  refine j_iconst (pc' := 1255) (v := 1) hκ (by decide) dL_law_1254 rfl ?_
  refine j_iadd (pc' := 1256) hκ dL_law_1255 rfl ?_
  refine j_sld (pc' := 1257) hκ hsc hv1 dL_law_1256 rfl ?_
  refine j_aload_n (pc' := 1258) hκ 0 rfl rfl dL_law_1257 rfl ?_
  refine j_iload_n (pc' := 1259) hκ 3 rfl rfl dL_law_1258 rfl ?_
  refine j_iconst (pc' := 1260) (v := 2) hκ (by decide) dL_law_1259 rfl ?_
  refine j_iadd (pc' := 1261) hκ dL_law_1260 rfl ?_
  refine j_sld (pc' := 1262) hκ hsc hv2 dL_law_1261 rfl ?_
  refine jm_callVi (pc' := 1265) hκ (c_m_shown (dg hκ) h) rfl rfl rfl (gVa wm_45_22 wm_45_23 wm_46_0 wm_1_5 wm_46_1) hqV_X10_shown ⟨Nat.le_of_ble_eq_true rfl, Nat.le_of_ble_eq_true rfl⟩ (wg_11 g _ _) rfl rfl rfl (Nat.le_of_ble_eq_true rfl) dL_law_1262 rfl (fun r2 M1 h => ?_)
  refine j_icmp_eq (tgt := 1293) (pc' := 1268) hκ dL_law_1265 (by decide) rfl (fun _ => ?_) (fun c9 => absurd h.1 c9)
  exact hrec _ _ h.2
theorem wm_46_2 : Cond.methodLink RL 161 yX9_check ∈ wAll := inr_46 (List.mem_of_getElem? (i := 2) rfl)
theorem wm_46_3 : Cond.instanceMethod yX9_check ∈ wAll := inr_46 (List.mem_of_getElem? (i := 3) rfl)
theorem wm_46_4 : Cond.selects RX9 yX9_check yX9_check ∈ wAll := inr_46 (List.mem_of_getElem? (i := 4) rfl)
theorem wm_46_5 : Cond.code yX9_check cX9_check 2 (some .int) ∈ wAll := inr_46 (List.mem_of_getElem? (i := 5) rfl)
theorem hqV_X9_check : yX9_check.cls = RX9 ∧ yX9_check.cls ≠ "java/lang/invoke/MethodHandle" ∧ yX9_check.cls ≠ "java/lang/invoke/VarHandle" ∧ (parseMethodDescriptor yX9_check.desc).map (fun d => d.parameters.length) = some 1 := by decide +kernel
theorem wm_46_15 : Cond.methodLink RL 164 yX10_check ∈ wAll := inr_46 (List.mem_of_getElem? (i := 15) rfl)
theorem wm_46_16 : Cond.instanceMethod yX10_check ∈ wAll := inr_46 (List.mem_of_getElem? (i := 16) rfl)
theorem wm_46_17 : Cond.selects RX10 yX10_check yX10_check ∈ wAll := inr_46 (List.mem_of_getElem? (i := 17) rfl)
theorem wm_46_18 : Cond.code yX10_check cX10_check 3 (some .int) ∈ wAll := inr_46 (List.mem_of_getElem? (i := 18) rfl)
theorem hqV_X10_check : yX10_check.cls = RX10 ∧ yX10_check.cls ≠ "java/lang/invoke/MethodHandle" ∧ yX10_check.cls ≠ "java/lang/invoke/VarHandle" ∧ (parseMethodDescriptor yX10_check.desc).map (fun d => d.parameters.length) = some 1 := by decide +kernel
set_option maxHeartbeats 4000000 in
set_option maxRecDepth 100000 in
theorem law_check {κ : Cx} {g : Gx} (hκ : CF κ g RL cL_law wAll 4 room_1) {b L : Nat} {xs : Nat → Int32} (hsc : SC κ b L xs) {Inv : ST → ST → Prop} {X M : ST} {l3 : Int32} (hv1 : vp_in (l3 + 1) L) (hv2 : vp_in (l3 + 2) L) (hv3 : vp_in (l3 + 3) L) (hv4 : vp_in (l3 + 4) L) (h : wp_LR_check X (xs (l3 + 1).toNatClampNeg) (fun r X1 => wp_m_check M (xs (l3 + 1).toNatClampNeg) (fun q M1 => r = q ∧ Inv X1 M1))) (hrec : ∀ X M, Inv X M → Jw κ g 4 X M [(0, .ref b), (1, .ref (g.2.1 0)), (2, .ref (g.2.1 11)), (3, .int l3)] 1293 []) : Jw κ g 4 X M [(0, .ref b), (1, .ref (g.2.1 0)), (2, .ref (g.2.1 11)), (3, .int l3)] 1270 [] := by
  refine j_aload_n (pc' := 1271) hκ 1 rfl rfl dL_law_1270 rfl ?_
  refine j_aload_n (pc' := 1272) hκ 0 rfl rfl dL_law_1271 rfl ?_
  refine j_iload_n (pc' := 1273) hκ 3 rfl rfl dL_law_1272 rfl ?_
  refine j_iconst (pc' := 1274) (v := 1) hκ (by decide) dL_law_1273 rfl ?_
  refine j_iadd (pc' := 1275) hκ dL_law_1274 rfl ?_
  refine j_sld (pc' := 1276) hκ hsc hv1 dL_law_1275 rfl ?_
  refine jx_callVi (pc' := 1279) hκ (c_LR_check (dg hκ) h) rfl rfl rfl (gVa wm_46_2 wm_46_3 wm_46_4 wm_1_2 wm_46_5) hqV_X9_check ⟨Nat.le_of_ble_eq_true rfl, Nat.le_of_ble_eq_true rfl⟩ (wg_0 g _ _) rfl rfl rfl (Nat.le_of_ble_eq_true rfl) dL_law_1276 rfl (fun r1 X1 h => ?_)
  refine j_aload_n (pc' := 1280) hκ 2 rfl rfl dL_law_1279 rfl ?_
  refine j_aload_n (pc' := 1281) hκ 0 rfl rfl dL_law_1280 rfl ?_
  refine j_iload_n (pc' := 1282) hκ 3 rfl rfl dL_law_1281 rfl ?_
  refine j_iconst (pc' := 1283) (v := 1) hκ (by decide) dL_law_1282 rfl ?_
  refine j_iadd (pc' := 1284) hκ dL_law_1283 rfl ?_
  refine j_sld (pc' := 1285) hκ hsc hv1 dL_law_1284 rfl ?_
  refine jm_callVi (pc' := 1288) hκ (c_m_check (dg hκ) h) rfl rfl rfl (gVa wm_46_15 wm_46_16 wm_46_17 wm_1_5 wm_46_18) hqV_X10_check ⟨Nat.le_of_ble_eq_true rfl, Nat.le_of_ble_eq_true rfl⟩ (wg_11 g _ _) rfl rfl rfl (Nat.le_of_ble_eq_true rfl) dL_law_1285 rfl (fun r2 M1 h => ?_)
  refine j_icmp_eq (tgt := 1293) (pc' := 1291) hκ dL_law_1288 (by decide) rfl (fun _ => ?_) (fun c9 => absurd h.1 c9)
  exact hrec _ _ h.2
/-- what each call must keep: from states that Inv ties together the same answer, and Inv again -/
def LStep (Inv : Nat → ST → ST → Prop) : Prop :=
  (∀ (n : Nat) (X M : ST) (a1 : Int32) (a2 : Int32) (a3 : Int32), n < 512 → Inv n X M → wp_LR_lane X a1 a2 a3 (fun r X1 => wp_m_lane M a1 a2 a3 (fun q M1 => r = q ∧ Inv (n + 1) X1 M1))) ∧
  (∀ (n : Nat) (X M : ST) (a1 : Int32) (z2 : Int32), n < 512 → bz z2 → Inv n X M → wp_LR_open X a1 z2 (fun r X1 => wp_m_open M a1 z2 (fun q M1 => r = q ∧ Inv (n + 1) X1 M1))) ∧
  (∀ (n : Nat) (X M : ST) (a1 : Int32) (a2 : Int32), n < 512 → Inv n X M → wp_LR_about X a1 a2 (fun r X1 => wp_m_about M a1 a2 (fun q M1 => r = q ∧ Inv (n + 1) X1 M1))) ∧
  (∀ (n : Nat) (X M : ST) (a1 : Int32) (a2 : Int32) (a3 : Int32), n < 512 → Inv n X M → wp_LR_row X a1 a2 a3 (fun r X1 => wp_m_row M a1 a2 a3 (fun q M1 => r = q ∧ Inv (n + 1) X1 M1))) ∧
  (∀ (n : Nat) (X M : ST) (a1 : Int32) (a2 : Int32) (w3 : Int64), n < 512 → Inv n X M → wp_LR_cell X a1 a2 w3 (fun r X1 => wp_m_cell M a1 a2 w3 (fun q M1 => r = q ∧ Inv (n + 1) X1 M1))) ∧
  (∀ (n : Nat) (X M : ST) (a1 : Int32) (a2 : Int32), n < 512 → Inv n X M → wp_LR_told X a1 a2 (fun r X1 => wp_m_told M a1 a2 (fun q M1 => r = q ∧ Inv (n + 1) X1 M1))) ∧
  (∀ (n : Nat) (X M : ST) (a1 : Int32), n < 512 → Inv n X M → wp_LR_lose X a1 (fun r X1 => wp_m_lose M a1 (fun q M1 => r = q ∧ Inv (n + 1) X1 M1))) ∧
  (∀ (n : Nat) (X M : ST) (a1 : Int32) (a2 : Int32) (a3 : Int32) (a4 : Int32), n < 512 → Inv n X M → wp_LR_lay X a1 a2 a3 a4 (fun r X1 => wp_m_lay M a1 a2 a3 a4 (fun q M1 => r = q ∧ Inv (n + 1) X1 M1))) ∧
  (∀ (n : Nat) (X M : ST) (a1 : Int32) (a2 : Int32), n < 512 → Inv n X M → wp_LR_way X a1 a2 (fun r X1 => wp_m_way M a1 a2 (fun q M1 => r = q ∧ Inv (n + 1) X1 M1))) ∧
  (∀ (n : Nat) (X M : ST) (a1 : Int32) (a2 : Int32) (a3 : Int32), n < 512 → Inv n X M → wp_LR_walk X a1 a2 a3 (fun r X1 => wp_m_walk M a1 a2 a3 (fun q M1 => r = q ∧ Inv (n + 1) X1 M1))) ∧
  (∀ (n : Nat) (X M : ST) (a1 : Int32) (a2 : Int32) (a3 : Int32), n < 512 → Inv n X M → wp_LR_lamp X a1 a2 a3 (fun r X1 => wp_m_lamp M a1 a2 a3 (fun q M1 => r = q ∧ Inv (n + 1) X1 M1))) ∧
  (∀ (n : Nat) (X M : ST) (a1 : Int32) (z2 : Int32), n < 512 → bz z2 → Inv n X M → wp_LR_dark X a1 z2 (fun r X1 => wp_m_dark M a1 z2 (fun q M1 => r = q ∧ Inv (n + 1) X1 M1))) ∧
  (∀ (n : Nat) (X M : ST) (a1 : Int32), n < 512 → Inv n X M → wp_LR_twin X a1 (fun r X1 => wp_m_twin M a1 (fun q M1 => r = q ∧ Inv (n + 1) X1 M1))) ∧
  (∀ (n : Nat) (X M : ST) (a1 : Int32) (a2 : Int32), n < 512 → Inv n X M → wp_LR_of X a1 a2 (fun r X1 => wp_m_of M a1 a2 (fun q M1 => r = q ∧ Inv (n + 1) X1 M1))) ∧
  (∀ (n : Nat) (X M : ST) (a1 : Int32), n < 512 → Inv n X M → wp_LR_many X a1 (fun r X1 => wp_m_many M a1 (fun q M1 => r = q ∧ Inv (n + 1) X1 M1))) ∧
  (∀ (n : Nat) (X M : ST) , n < 512 → Inv n X M → wp_LR_least X (fun r X1 => wp_m_least M (fun q M1 => r = q ∧ Inv (n + 1) X1 M1))) ∧
  (∀ (n : Nat) (X M : ST) , n < 512 → Inv n X M → wp_LR_second X (fun r X1 => wp_m_second M (fun q M1 => r = q ∧ Inv (n + 1) X1 M1))) ∧
  (∀ (n : Nat) (X M : ST) (a1 : Int32) (a2 : Int32) (z3 : Int32), n < 512 → bz z3 → Inv n X M → wp_LR_with X a1 a2 z3 (fun r X1 => wp_m_with M a1 a2 z3 (fun q M1 => r = q ∧ Inv (n + 1) X1 M1))) ∧
  (∀ (n : Nat) (X M : ST) (a1 : Int32), n < 512 → Inv n X M → wp_LR_put X a1 (fun r X1 => wp_m_put M a1 (fun q M1 => r = q ∧ Inv (n + 1) X1 M1))) ∧
  (∀ (n : Nat) (X M : ST) , n < 512 → Inv n X M → wp_LR_clear X (fun r X1 => wp_m_clear M (fun q M1 => r = q ∧ Inv (n + 1) X1 M1))) ∧
  (∀ (n : Nat) (X M : ST) (a1 : Int32), n < 512 → Inv n X M → wp_LR_at X a1 (fun r X1 => wp_m_at M a1 (fun q M1 => r = q ∧ Inv (n + 1) X1 M1))) ∧
  (∀ (n : Nat) (X M : ST) , n < 512 → Inv n X M → wp_LR_length X (fun r X1 => wp_m_length M (fun q M1 => r = q ∧ Inv (n + 1) X1 M1))) ∧
  (∀ (n : Nat) (X M : ST) , n < 512 → Inv n X M → wp_LR_keeps X (fun r X1 => wp_m_keeps M (fun q M1 => r = q ∧ Inv (n + 1) X1 M1))) ∧
  (∀ (n : Nat) (X M : ST) (a1 : Int32) (a2 : Int32), n < 512 → Inv n X M → wp_LR_turn X a1 a2 (fun r X1 => wp_m_turn M a1 a2 (fun q M1 => r = q ∧ Inv (n + 1) X1 M1))) ∧
  (∀ (n : Nat) (X M : ST) , n < 512 → Inv n X M → wp_LR_better X (fun r X1 => wp_m_better M (fun q M1 => r = q ∧ Inv (n + 1) X1 M1))) ∧
  (∀ (n : Nat) (X M : ST) (a1 : Int32) (a2 : Int32), n < 512 → Inv n X M → wp_LR_price X a1 a2 (fun r X1 => wp_m_price M a1 a2 (fun q M1 => r = q ∧ Inv (n + 1) X1 M1))) ∧
  (∀ (n : Nat) (X M : ST) (a1 : Int32), n < 512 → Inv n X M → wp_LR_climb X a1 (fun r X1 => wp_m_climb M a1 (fun q M1 => r = q ∧ Inv (n + 1) X1 M1))) ∧
  (∀ (n : Nat) (X M : ST) , n < 512 → Inv n X M → wp_LR_bound X (fun r X1 => wp_m_bound M (fun q M1 => r = q ∧ Inv (n + 1) X1 M1))) ∧
  (∀ (n : Nat) (X M : ST) (a1 : Int32), n < 512 → Inv n X M → wp_LR_taken X a1 (fun r X1 => wp_m_taken M a1 (fun q M1 => r = q ∧ Inv (n + 1) X1 M1))) ∧
  (∀ (n : Nat) (X M : ST) (a1 : Int32), n < 512 → Inv n X M → wp_LR_prove X a1 (fun r X1 => wp_m_prove M a1 (fun q M1 => r = q ∧ Inv (n + 1) X1 M1))) ∧
  (∀ (n : Nat) (X M : ST) (a1 : Int32) (a2 : Int32) (a3 : Int32), n < 512 → Inv n X M → wp_LR_line X a1 a2 a3 (fun r X1 => wp_m_line M a1 a2 a3 (fun q M1 => r = q ∧ Inv (n + 1) X1 M1))) ∧
  (∀ (n : Nat) (X M : ST) (a1 : Int32) (a2 : Int32) (a3 : Int32) (a4 : Int32), n < 512 → Inv n X M → wp_LR_alter X a1 a2 a3 a4 (fun r X1 => wp_m_alter M a1 a2 a3 a4 (fun q M1 => r = q ∧ Inv (n + 1) X1 M1))) ∧
  (∀ (n : Nat) (X M : ST) (a1 : Int32), n < 512 → Inv n X M → wp_LR_cut X a1 (fun r X1 => wp_m_cut M a1 (fun q M1 => r = q ∧ Inv (n + 1) X1 M1))) ∧
  (∀ (n : Nat) (X M : ST) (a1 : Int32) (a2 : Int32), n < 512 → Inv n X M → wp_LR_shown X a1 a2 (fun r X1 => wp_m_shown M a1 a2 (fun q M1 => r = q ∧ Inv (n + 1) X1 M1))) ∧
  (∀ (n : Nat) (X M : ST) (a1 : Int32), n < 512 → Inv n X M → wp_LR_check X a1 (fun r X1 => wp_m_check M a1 (fun q M1 => r = q ∧ Inv (n + 1) X1 M1)))
set_option maxHeartbeats 4000000 in
set_option maxRecDepth 100000 in
theorem law_loop {κ : Cx} {g : Gx} (hκ : CF κ g RL cL_law wAll 4 room_1) {b L : Nat} {xs : Nat → Int32} (hsc : SC κ b L xs) (hL : L ≤ 2560) (hEnd : ∀ (X M : ST) (lv : List (Nat × Value)), Jw κ g 4 X M lv 1300 [.int 1]) {Inv : Nat → ST → ST → Prop} (hI : LStep Inv) (hSkip : ∀ (k : Nat) (X M : ST), k < 512 → Inv k X M → Inv (k + 1) X M) : ∀ (n k : Nat) (X M : ST), 513 ≤ k + n → 5 * k ≤ L → Inv k X M → Jw κ g 4 X M [(0, .ref b), (1, .ref (g.2.1 0)), (2, .ref (g.2.1 11)), (3, .int (nI (5 * k)))] 18 [] := by
  intro n
  induction n with
  | zero =>
    intro k X M h1 h2
    exact absurd h2 (by omega)
  | succ n ih =>
    intro k X M h1 h2 hi
    generalize el : nI (5 * k) = l3
    refine j_iload_n (pc' := 19) hκ 3 rfl rfl dL_law_18 rfl ?_
    refine j_aload_n (pc' := 20) hκ 0 rfl rfl dL_law_19 rfl ?_
    refine j_slen (pc' := 21) hκ hsc dL_law_20 rfl ?_
    refine j_iconst (pc' := 22) (v := 5) hκ (by decide) dL_law_21 rfl ?_
    refine j_isub (pc' := 23) hκ dL_law_22 rfl ?_
    have eL : (Int32.ofNat L - 5).toInt = (L : Int) - 5 := pk_sub_toInt (a := L) (b := 5) (by omega) (by decide)
    have ek : l3.toInt = ((5 * k : Nat) : Int) := by rw [← el]; exact nI_toInt (by omega)
    refine j_icmp_gt (tgt := 1299) (pc' := 26) hκ dL_law_23 (by decide) rfl (fun c => ?_) (fun c => ?_)
    · refine j_iconst (pc' := 1300) (v := 1) hκ (by decide) dL_law_1299 rfl ?_
      exact hEnd _ _ _
    · have hlt : 5 * k + 5 ≤ L := by
        have : ¬ ((L : Int) - 5 < ((5 * k : Nat) : Int)) := fun q => c (Int32.lt_iff_toInt_lt.mpr (by rw [eL, ek]; exact q))
        omega
      have hk : k < 512 := by omega
      have e1 : l3 + 1 = nI (5 * k + 1) := by rw [← el]; exact nI_add (5 * k) 1
      have e2 : l3 + 2 = nI (5 * k + 2) := by rw [← el]; exact nI_add (5 * k) 2
      have e3 : l3 + 3 = nI (5 * k + 3) := by rw [← el]; exact nI_add (5 * k) 3
      have e4 : l3 + 4 = nI (5 * k + 4) := by rw [← el]; exact nI_add (5 * k) 4
      have e5 : l3 + 5 = nI (5 * (k + 1)) := by rw [← el]; exact nI_add (5 * k) 5
      have hv0 : vp_in l3 L := by rw [← el]; exact vp_in_nI (by omega) (by omega)
      have hv1 : vp_in (l3 + 1) L := by rw [e1]; exact vp_in_nI (by omega) (by omega)
      have hv2 : vp_in (l3 + 2) L := by rw [e2]; exact vp_in_nI (by omega) (by omega)
      have hv3 : vp_in (l3 + 3) L := by rw [e3]; exact vp_in_nI (by omega) (by omega)
      have hv4 : vp_in (l3 + 4) L := by rw [e4]; exact vp_in_nI (by omega) (by omega)
      have hrec : ∀ X M, Inv (k + 1) X M → Jw κ g 4 X M [(0, .ref b), (1, .ref (g.2.1 0)), (2, .ref (g.2.1 11)), (3, .int l3)] 1293 [] := by
        intro X M hi
        refine j_iinc (pc' := 1296) (v := l3 + 5) (lv' := [(3, .int (l3 + 5)), (0, .ref b), (1, .ref (g.2.1 0)), (2, .ref (g.2.1 11))]) hκ 3 rfl rfl (Nat.le_of_ble_eq_true rfl) rfl dL_law_1293 rfl ?_
        refine j_goto (pc' := 18) hκ (by decide) dL_law_1296 ?_
        refine j_sub [1, 2, 3, 0] rfl ?_
        rw [e5]
        exact ih (k + 1) X M (by omega) (by omega) hi
      refine j_aload_n (pc' := 27) hκ 0 rfl rfl dL_law_26 rfl ?_
      refine j_iload_n (pc' := 28) hκ 3 rfl rfl dL_law_27 rfl ?_
      refine j_sld (pc' := 29) hκ hsc hv0 dL_law_28 rfl ?_
      refine j_bipush (pc' := 31) (v := 63) hκ (by decide) dL_law_29 rfl ?_
      refine j_iand (pc' := 32) hκ dL_law_31 rfl ?_
      generalize xs l3.toNatClampNeg &&& 63 = w
      by_cases c0 : w = 0
      · refine j_tabEq (v := 0) (tgt := 188) hκ dL_law_32 c0 (by decide) (by decide) rfl (by decide) ?_
        exact law_lane hκ hsc (Inv := Inv (k + 1)) hv1 hv2 hv3 hv4 (hI.1 k X M _ _ _ hk hi) hrec
      by_cases c1 : w = 1
      · refine j_tabEq (v := 1) (tgt := 231) hκ dL_law_32 c1 (by decide) (by decide) rfl (by decide) ?_
        exact law_open hκ hsc (Inv := Inv (k + 1)) hv1 hv2 hv3 hv4 (fun z hz => hI.2.1 k X M _ z hk hz hi) hrec
      by_cases c2 : w = 2
      · refine j_tabEq (v := 2) (tgt := 280) hκ dL_law_32 c2 (by decide) (by decide) rfl (by decide) ?_
        exact law_about hκ hsc (Inv := Inv (k + 1)) hv1 hv2 hv3 hv4 (hI.2.2.1 k X M _ _ hk hi) hrec
      by_cases c3 : w = 3
      · refine j_tabEq (v := 3) (tgt := 313) hκ dL_law_32 c3 (by decide) (by decide) rfl (by decide) ?_
        exact law_row hκ hsc (Inv := Inv (k + 1)) hv1 hv2 hv3 hv4 (hI.2.2.2.1 k X M _ _ _ hk hi) hrec
      by_cases c4 : w = 4
      · refine j_tabEq (v := 4) (tgt := 356) hκ dL_law_32 c4 (by decide) (by decide) rfl (by decide) ?_
        exact law_cell hκ hsc (Inv := Inv (k + 1)) hv1 hv2 hv3 hv4 (hI.2.2.2.2.1 k X M _ _ _ hk hi) hrec
      by_cases c5 : w = 5
      · refine j_tabEq (v := 5) (tgt := 429) hκ dL_law_32 c5 (by decide) (by decide) rfl (by decide) ?_
        exact law_told hκ hsc (Inv := Inv (k + 1)) hv1 hv2 hv3 hv4 (hI.2.2.2.2.2.1 k X M _ _ hk hi) hrec
      by_cases c6 : w = 6
      · refine j_tabEq (v := 6) (tgt := 463) hκ dL_law_32 c6 (by decide) (by decide) rfl (by decide) ?_
        exact law_lose hκ hsc (Inv := Inv (k + 1)) hv1 hv2 hv3 hv4 (hI.2.2.2.2.2.2.1 k X M _ hk hi) hrec
      by_cases c7 : w = 7
      · refine j_tabEq (v := 7) (tgt := 486) hκ dL_law_32 c7 (by decide) (by decide) rfl (by decide) ?_
        exact law_lay hκ hsc (Inv := Inv (k + 1)) hv1 hv2 hv3 hv4 (hI.2.2.2.2.2.2.2.1 k X M _ _ _ _ hk hi) hrec
      by_cases c8 : w = 8
      · refine j_tabEq (v := 8) (tgt := 539) hκ dL_law_32 c8 (by decide) (by decide) rfl (by decide) ?_
        exact law_way hκ hsc (Inv := Inv (k + 1)) hv1 hv2 hv3 hv4 (hI.2.2.2.2.2.2.2.2.1 k X M _ _ hk hi) hrec
      by_cases c9 : w = 9
      · refine j_tabEq (v := 9) (tgt := 572) hκ dL_law_32 c9 (by decide) (by decide) rfl (by decide) ?_
        exact law_walk hκ hsc (Inv := Inv (k + 1)) hv1 hv2 hv3 hv4 (hI.2.2.2.2.2.2.2.2.2.1 k X M _ _ _ hk hi) hrec
      by_cases c10 : w = 10
      · refine j_tabEq (v := 10) (tgt := 615) hκ dL_law_32 c10 (by decide) (by decide) rfl (by decide) ?_
        exact law_lamp hκ hsc (Inv := Inv (k + 1)) hv1 hv2 hv3 hv4 (hI.2.2.2.2.2.2.2.2.2.2.1 k X M _ _ _ hk hi) hrec
      by_cases c11 : w = 11
      · refine j_tabEq (v := 11) (tgt := 658) hκ dL_law_32 c11 (by decide) (by decide) rfl (by decide) ?_
        exact law_dark hκ hsc (Inv := Inv (k + 1)) hv1 hv2 hv3 hv4 (fun z hz => hI.2.2.2.2.2.2.2.2.2.2.2.1 k X M _ z hk hz hi) hrec
      by_cases c12 : w = 12
      · refine j_tabEq (v := 12) (tgt := 707) hκ dL_law_32 c12 (by decide) (by decide) rfl (by decide) ?_
        exact law_twin hκ hsc (Inv := Inv (k + 1)) hv1 hv2 hv3 hv4 (hI.2.2.2.2.2.2.2.2.2.2.2.2.1 k X M _ hk hi) hrec
      by_cases c13 : w = 13
      · refine j_tabEq (v := 13) (tgt := 730) hκ dL_law_32 c13 (by decide) (by decide) rfl (by decide) ?_
        exact law_of hκ hsc (Inv := Inv (k + 1)) hv1 hv2 hv3 hv4 (hI.2.2.2.2.2.2.2.2.2.2.2.2.2.1 k X M _ _ hk hi) hrec
      by_cases c14 : w = 14
      · refine j_tabEq (v := 14) (tgt := 763) hκ dL_law_32 c14 (by decide) (by decide) rfl (by decide) ?_
        exact law_many hκ hsc (Inv := Inv (k + 1)) hv1 hv2 hv3 hv4 (hI.2.2.2.2.2.2.2.2.2.2.2.2.2.2.1 k X M _ hk hi) hrec
      by_cases c15 : w = 15
      · refine j_tabEq (v := 15) (tgt := 786) hκ dL_law_32 c15 (by decide) (by decide) rfl (by decide) ?_
        exact law_least hκ hsc (Inv := Inv (k + 1)) hv1 hv2 hv3 hv4 (hI.2.2.2.2.2.2.2.2.2.2.2.2.2.2.2.1 k X M hk hi) hrec
      by_cases c16 : w = 16
      · refine j_tabEq (v := 16) (tgt := 799) hκ dL_law_32 c16 (by decide) (by decide) rfl (by decide) ?_
        exact law_second hκ hsc (Inv := Inv (k + 1)) hv1 hv2 hv3 hv4 (hI.2.2.2.2.2.2.2.2.2.2.2.2.2.2.2.2.1 k X M hk hi) hrec
      by_cases c17 : w = 17
      · refine j_tabEq (v := 17) (tgt := 812) hκ dL_law_32 c17 (by decide) (by decide) rfl (by decide) ?_
        exact law_with hκ hsc (Inv := Inv (k + 1)) hv1 hv2 hv3 hv4 (fun z hz => hI.2.2.2.2.2.2.2.2.2.2.2.2.2.2.2.2.2.1 k X M _ _ z hk hz hi) hrec
      by_cases c18 : w = 18
      · refine j_tabEq (v := 18) (tgt := 871) hκ dL_law_32 c18 (by decide) (by decide) rfl (by decide) ?_
        exact law_put hκ hsc (Inv := Inv (k + 1)) hv1 hv2 hv3 hv4 (hI.2.2.2.2.2.2.2.2.2.2.2.2.2.2.2.2.2.2.1 k X M _ hk hi) hrec
      by_cases c19 : w = 19
      · refine j_tabEq (v := 19) (tgt := 894) hκ dL_law_32 c19 (by decide) (by decide) rfl (by decide) ?_
        exact law_clear hκ hsc (Inv := Inv (k + 1)) hv1 hv2 hv3 hv4 (hI.2.2.2.2.2.2.2.2.2.2.2.2.2.2.2.2.2.2.2.1 k X M hk hi) hrec
      by_cases c20 : w = 20
      · refine j_tabEq (v := 20) (tgt := 907) hκ dL_law_32 c20 (by decide) (by decide) rfl (by decide) ?_
        exact law_at hκ hsc (Inv := Inv (k + 1)) hv1 hv2 hv3 hv4 (hI.2.2.2.2.2.2.2.2.2.2.2.2.2.2.2.2.2.2.2.2.1 k X M _ hk hi) hrec
      by_cases c21 : w = 21
      · refine j_tabEq (v := 21) (tgt := 930) hκ dL_law_32 c21 (by decide) (by decide) rfl (by decide) ?_
        exact law_length hκ hsc (Inv := Inv (k + 1)) hv1 hv2 hv3 hv4 (hI.2.2.2.2.2.2.2.2.2.2.2.2.2.2.2.2.2.2.2.2.2.1 k X M hk hi) hrec
      by_cases c22 : w = 22
      · refine j_tabEq (v := 22) (tgt := 943) hκ dL_law_32 c22 (by decide) (by decide) rfl (by decide) ?_
        exact law_keeps hκ hsc (Inv := Inv (k + 1)) hv1 hv2 hv3 hv4 (hI.2.2.2.2.2.2.2.2.2.2.2.2.2.2.2.2.2.2.2.2.2.2.1 k X M hk hi) hrec
      by_cases c23 : w = 23
      · refine j_tabEq (v := 23) (tgt := 956) hκ dL_law_32 c23 (by decide) (by decide) rfl (by decide) ?_
        exact law_turn hκ hsc (Inv := Inv (k + 1)) hv1 hv2 hv3 hv4 (hI.2.2.2.2.2.2.2.2.2.2.2.2.2.2.2.2.2.2.2.2.2.2.2.1 k X M _ _ hk hi) hrec
      by_cases c24 : w = 24
      · refine j_tabEq (v := 24) (tgt := 989) hκ dL_law_32 c24 (by decide) (by decide) rfl (by decide) ?_
        exact law_better hκ hsc (Inv := Inv (k + 1)) hv1 hv2 hv3 hv4 (hI.2.2.2.2.2.2.2.2.2.2.2.2.2.2.2.2.2.2.2.2.2.2.2.2.1 k X M hk hi) hrec
      by_cases c25 : w = 25
      · refine j_tabEq (v := 25) (tgt := 1002) hκ dL_law_32 c25 (by decide) (by decide) rfl (by decide) ?_
        exact law_price hκ hsc (Inv := Inv (k + 1)) hv1 hv2 hv3 hv4 (hI.2.2.2.2.2.2.2.2.2.2.2.2.2.2.2.2.2.2.2.2.2.2.2.2.2.1 k X M _ _ hk hi) hrec
      by_cases c26 : w = 26
      · refine j_tabEq (v := 26) (tgt := 1035) hκ dL_law_32 c26 (by decide) (by decide) rfl (by decide) ?_
        exact law_climb hκ hsc (Inv := Inv (k + 1)) hv1 hv2 hv3 hv4 (hI.2.2.2.2.2.2.2.2.2.2.2.2.2.2.2.2.2.2.2.2.2.2.2.2.2.2.1 k X M _ hk hi) hrec
      by_cases c27 : w = 27
      · refine j_tabEq (v := 27) (tgt := 1058) hκ dL_law_32 c27 (by decide) (by decide) rfl (by decide) ?_
        exact law_bound hκ hsc (Inv := Inv (k + 1)) hv1 hv2 hv3 hv4 (hI.2.2.2.2.2.2.2.2.2.2.2.2.2.2.2.2.2.2.2.2.2.2.2.2.2.2.2.1 k X M hk hi) hrec
      by_cases c28 : w = 28
      · refine j_tabEq (v := 28) (tgt := 1072) hκ dL_law_32 c28 (by decide) (by decide) rfl (by decide) ?_
        exact law_taken hκ hsc (Inv := Inv (k + 1)) hv1 hv2 hv3 hv4 (hI.2.2.2.2.2.2.2.2.2.2.2.2.2.2.2.2.2.2.2.2.2.2.2.2.2.2.2.2.1 k X M _ hk hi) hrec
      by_cases c29 : w = 29
      · refine j_tabEq (v := 29) (tgt := 1095) hκ dL_law_32 c29 (by decide) (by decide) rfl (by decide) ?_
        exact law_prove hκ hsc (Inv := Inv (k + 1)) hv1 hv2 hv3 hv4 (hI.2.2.2.2.2.2.2.2.2.2.2.2.2.2.2.2.2.2.2.2.2.2.2.2.2.2.2.2.2.1 k X M _ hk hi) hrec
      by_cases c30 : w = 30
      · refine j_tabEq (v := 30) (tgt := 1118) hκ dL_law_32 c30 (by decide) (by decide) rfl (by decide) ?_
        exact law_line hκ hsc (Inv := Inv (k + 1)) hv1 hv2 hv3 hv4 (hI.2.2.2.2.2.2.2.2.2.2.2.2.2.2.2.2.2.2.2.2.2.2.2.2.2.2.2.2.2.2.1 k X M _ _ _ hk hi) hrec
      by_cases c31 : w = 31
      · refine j_tabEq (v := 31) (tgt := 1161) hκ dL_law_32 c31 (by decide) (by decide) rfl (by decide) ?_
        exact law_alter hκ hsc (Inv := Inv (k + 1)) hv1 hv2 hv3 hv4 (hI.2.2.2.2.2.2.2.2.2.2.2.2.2.2.2.2.2.2.2.2.2.2.2.2.2.2.2.2.2.2.2.1 k X M _ _ _ _ hk hi) hrec
      by_cases c32 : w = 32
      · refine j_tabEq (v := 32) (tgt := 1214) hκ dL_law_32 c32 (by decide) (by decide) rfl (by decide) ?_
        exact law_cut hκ hsc (Inv := Inv (k + 1)) hv1 hv2 hv3 hv4 (hI.2.2.2.2.2.2.2.2.2.2.2.2.2.2.2.2.2.2.2.2.2.2.2.2.2.2.2.2.2.2.2.2.1 k X M _ hk hi) hrec
      by_cases c33 : w = 33
      · refine j_tabEq (v := 33) (tgt := 1237) hκ dL_law_32 c33 (by decide) (by decide) rfl (by decide) ?_
        exact law_shown hκ hsc (Inv := Inv (k + 1)) hv1 hv2 hv3 hv4 (hI.2.2.2.2.2.2.2.2.2.2.2.2.2.2.2.2.2.2.2.2.2.2.2.2.2.2.2.2.2.2.2.2.2.1 k X M _ _ hk hi) hrec
      by_cases c34 : w = 34
      · refine j_tabEq (v := 34) (tgt := 1270) hκ dL_law_32 c34 (by decide) (by decide) rfl (by decide) ?_
        exact law_check hκ hsc (Inv := Inv (k + 1)) hv1 hv2 hv3 hv4 (hI.2.2.2.2.2.2.2.2.2.2.2.2.2.2.2.2.2.2.2.2.2.2.2.2.2.2.2.2.2.2.2.2.2.2 k X M _ hk hi) hrec
      have u0 : ¬ w.toInt = 0 := fun e => c0 (Int32.toInt_inj.mp (e.trans (by decide)))
      have u1 : ¬ w.toInt = 1 := fun e => c1 (Int32.toInt_inj.mp (e.trans (by decide)))
      have u2 : ¬ w.toInt = 2 := fun e => c2 (Int32.toInt_inj.mp (e.trans (by decide)))
      have u3 : ¬ w.toInt = 3 := fun e => c3 (Int32.toInt_inj.mp (e.trans (by decide)))
      have u4 : ¬ w.toInt = 4 := fun e => c4 (Int32.toInt_inj.mp (e.trans (by decide)))
      have u5 : ¬ w.toInt = 5 := fun e => c5 (Int32.toInt_inj.mp (e.trans (by decide)))
      have u6 : ¬ w.toInt = 6 := fun e => c6 (Int32.toInt_inj.mp (e.trans (by decide)))
      have u7 : ¬ w.toInt = 7 := fun e => c7 (Int32.toInt_inj.mp (e.trans (by decide)))
      have u8 : ¬ w.toInt = 8 := fun e => c8 (Int32.toInt_inj.mp (e.trans (by decide)))
      have u9 : ¬ w.toInt = 9 := fun e => c9 (Int32.toInt_inj.mp (e.trans (by decide)))
      have u10 : ¬ w.toInt = 10 := fun e => c10 (Int32.toInt_inj.mp (e.trans (by decide)))
      have u11 : ¬ w.toInt = 11 := fun e => c11 (Int32.toInt_inj.mp (e.trans (by decide)))
      have u12 : ¬ w.toInt = 12 := fun e => c12 (Int32.toInt_inj.mp (e.trans (by decide)))
      have u13 : ¬ w.toInt = 13 := fun e => c13 (Int32.toInt_inj.mp (e.trans (by decide)))
      have u14 : ¬ w.toInt = 14 := fun e => c14 (Int32.toInt_inj.mp (e.trans (by decide)))
      have u15 : ¬ w.toInt = 15 := fun e => c15 (Int32.toInt_inj.mp (e.trans (by decide)))
      have u16 : ¬ w.toInt = 16 := fun e => c16 (Int32.toInt_inj.mp (e.trans (by decide)))
      have u17 : ¬ w.toInt = 17 := fun e => c17 (Int32.toInt_inj.mp (e.trans (by decide)))
      have u18 : ¬ w.toInt = 18 := fun e => c18 (Int32.toInt_inj.mp (e.trans (by decide)))
      have u19 : ¬ w.toInt = 19 := fun e => c19 (Int32.toInt_inj.mp (e.trans (by decide)))
      have u20 : ¬ w.toInt = 20 := fun e => c20 (Int32.toInt_inj.mp (e.trans (by decide)))
      have u21 : ¬ w.toInt = 21 := fun e => c21 (Int32.toInt_inj.mp (e.trans (by decide)))
      have u22 : ¬ w.toInt = 22 := fun e => c22 (Int32.toInt_inj.mp (e.trans (by decide)))
      have u23 : ¬ w.toInt = 23 := fun e => c23 (Int32.toInt_inj.mp (e.trans (by decide)))
      have u24 : ¬ w.toInt = 24 := fun e => c24 (Int32.toInt_inj.mp (e.trans (by decide)))
      have u25 : ¬ w.toInt = 25 := fun e => c25 (Int32.toInt_inj.mp (e.trans (by decide)))
      have u26 : ¬ w.toInt = 26 := fun e => c26 (Int32.toInt_inj.mp (e.trans (by decide)))
      have u27 : ¬ w.toInt = 27 := fun e => c27 (Int32.toInt_inj.mp (e.trans (by decide)))
      have u28 : ¬ w.toInt = 28 := fun e => c28 (Int32.toInt_inj.mp (e.trans (by decide)))
      have u29 : ¬ w.toInt = 29 := fun e => c29 (Int32.toInt_inj.mp (e.trans (by decide)))
      have u30 : ¬ w.toInt = 30 := fun e => c30 (Int32.toInt_inj.mp (e.trans (by decide)))
      have u31 : ¬ w.toInt = 31 := fun e => c31 (Int32.toInt_inj.mp (e.trans (by decide)))
      have u32 : ¬ w.toInt = 32 := fun e => c32 (Int32.toInt_inj.mp (e.trans (by decide)))
      have u33 : ¬ w.toInt = 33 := fun e => c33 (Int32.toInt_inj.mp (e.trans (by decide)))
      have u34 : ¬ w.toInt = 34 := fun e => c34 (Int32.toInt_inj.mp (e.trans (by decide)))
      refine j_tabOut (tgt := 1293) hκ dL_law_32 (by omega) (by decide) ?_
      exact hrec _ _ (hSkip k X M hk hi)

