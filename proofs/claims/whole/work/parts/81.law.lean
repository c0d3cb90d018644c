section LAWC
variable {p : Program} {l : Launch} {e : Env} {s : State} {m : MethodId} {below : List Frame} {meth : Method} {c : Code} {H : Heap} {locs : List Loc} {cells slots : Nat} {Q : State → Prop}
variable {b L z x q o : Nat} {xs : Nat → Int32} {G : GD} {Rel : Rho → Nat → Nat → Nat → Prop} {ρ : Rho} {ls : Array Slot} {x4 : Int32}
theorem s_ld {cc : ByteArray} {pc : Nat} {rest : List Value} {A : Nat → Prop} {H0 : Heap} {i v : Int32} (hexec : p.tables.exec = Jvm.exec) (hb : c.code = cc) (hX : va_X b L xs s H0) (hbl : b < H0.size) (hbA : ¬ A b) (hS : va_S A H0 H locs) (hin : vp_in i L) (hv : xs i.toNatClampNeg = v) (hdg : decode cc pc = .ok (.iaload, 1))
    (kk : W p l e room_1 s m #[Value.ref b] below meth c H locs cells slots Q (F0 m (pc + 1) ls (.int v :: rest))) : W p l e room_1 s m #[Value.ref b] below meth c H locs cells slots Q (F0 m pc ls (.int i :: .ref b :: rest)) := by
  subst hv
  exact va_sld hexec hb hX hbl hbA hS hin hdg kk
set_option maxHeartbeats 4000000 in
set_option maxRecDepth 100000 in
theorem lc_house (C : LC p l s m c b L xs G) (sim : Sim_house Rel) (hRel : Rel ρ x q o) (hLS : LSt G s ρ z H locs) (hc : cells + 1 ≤ 601024) (hs : slots + 8 ≤ 7293033) (hi : vp_in (x4 + 1) L ∧ vp_in (x4 + 2) L ∧ vp_in (x4 + 3) L ∧ vp_in (x4 + 4) L ∧ vp_in (x4 + 5) L) (hl : lv_has ls 8 [(4, .int x4), (0, .ref b), (1, .ref x), (2, .ref q), (3, .ref o)])
    (kk : ∀ (ρ2 : Rho) (z2 : Nat) (H2 : Heap) (locs2 : List Loc) (ls2 : Array Slot), Rel ρ2 x q o → LSt G s ρ2 z2 H2 locs2 → lv_has ls2 8 [(4, .int x4), (0, .ref b), (1, .ref x), (2, .ref q), (3, .ref o)] → W p l e room_1 s m #[Value.ref b] below meth c H2 locs2 (cells + 1) (slots + 8) Q (F0 m 1558 ls2 [])) : W p l e room_1 s m #[Value.ref b] below meth c H locs cells slots Q (F0 m 224 ls []) := by
  obtain ⟨hx, hb, hml, hown, hts, hK, hO, hX, hXs, hbl, hfl⟩ := C
  obtain ⟨hi1, hi2, hi3, hi4, hi5⟩ := hi
  have hlt := hLS.lt
  obtain ⟨hR, hS⟩ := hLS
  have hVS := hS.va
  have hbA : ¬ (fun y => s.heap.size ≤ y) b := Nat.not_le.mpr hbl
  have hcc : cells ≤ room_1.cells ∧ slots ≤ room_1.slots := ⟨Nat.le_trans (Nat.le_succ _) hc, Nat.le_trans (Nat.le_add_right _ _) hs⟩
  obtain ⟨a1, ha1⟩ : ∃ a, xs (x4 + 1).toNatClampNeg = a := ⟨_, rfl⟩
  obtain ⟨ux, r, ρ1, um, ρ2, g1, f1, g2, f2, hRel2⟩ := sim ρ z x q o a1 hRel hlt
  refine lv_aload_n hx hb dL_law_224 rfl (lv_at hl 2 rfl) ?_
  refine lv_aload_n hx hb dL_law_225 rfl (lv_at hl 1 rfl) ?_
  refine lv_iload hx hb dL_law_226 (lv_at hl 0 rfl) ?_
  refine lv_iconst (v := 1) hx hb dL_law_228 (by decide) ?_
  refine lv_iadd hx hb dL_law_229 ?_
  refine s_ld hx hb hXs hbl hbA hVS hi1 (ha1) dL_law_230 ?_
  refine aw_callV (As := [.int a1]) (rest := []) (st1 := [.int r]) ⟨hx, hb, hml, hown, hts⟩ (kX9_house l G ρ x a1 _ _ f1) (cu_V hts tw_1_151 tw_1_148 tw_1_149 tw_1_150 tw_1_1 hdX9_house rfl rfl ⟨Nat.le_of_ble_eq_true rfl, Nat.le_of_ble_eq_true rfl⟩) hK hR hS rfl g1 rfl hl.1 rfl (Nat.le_of_ble_eq_true rfl) dL_law_231 hcc rfl (fun H locs hR hS => ?_)
  have hVS := hS.va
  refine lv_aload_n hx hb dL_law_234 rfl (lv_at hl 3 rfl) ?_
  refine lv_aload_n hx hb dL_law_235 rfl (lv_at hl 1 rfl) ?_
  refine lv_iload hx hb dL_law_236 (lv_at hl 0 rfl) ?_
  refine lv_iconst (v := 1) hx hb dL_law_238 (by decide) ?_
  refine lv_iadd hx hb dL_law_239 ?_
  refine s_ld hx hb hXs hbl hbA hVS hi1 (ha1) dL_law_240 ?_
  refine aw_callV (As := [.int a1]) (rest := [.int r]) (st1 := [.int r, .int r]) ⟨hx, hb, hml, hown, hts⟩ (kX10_house l G ρ1 q a1 _ _ f2) (cu_V hts tw_4_171 tw_4_168 tw_4_169 tw_4_170 tw_1_4 hdX10_house rfl rfl ⟨Nat.le_of_ble_eq_true rfl, Nat.le_of_ble_eq_true rfl⟩) hK hR hS rfl g2 rfl hl.1 rfl (Nat.le_of_ble_eq_true rfl) dL_law_241 hcc rfl (fun H locs hR hS => ?_)
  refine lv_icmp_eq (tgt := 1558) hx hb dL_law_244 (by decide) (fun _ => ?_) (fun c9 => absurd rfl c9)
  refine W.widen (k := cells + 1) (n := slots + 8) (by omega) (by omega) ?_
  exact kk _ _ _ _ _ hRel2 ⟨hR, hS⟩ (lv_sub hl [0, 1, 2, 3, 4] rfl)
set_option maxHeartbeats 4000000 in
set_option maxRecDepth 100000 in
theorem lc_window (C : LC p l s m c b L xs G) (sim : Sim_window Rel) (hRel : Rel ρ x q o) (hLS : LSt G s ρ z H locs) (hc : cells + 1 ≤ 601024) (hs : slots + 8 ≤ 7293033) (hi : vp_in (x4 + 1) L ∧ vp_in (x4 + 2) L ∧ vp_in (x4 + 3) L ∧ vp_in (x4 + 4) L ∧ vp_in (x4 + 5) L) (hl : lv_has ls 8 [(4, .int x4), (0, .ref b), (1, .ref x), (2, .ref q), (3, .ref o)])
    (kk : ∀ (ρ2 : Rho) (z2 : Nat) (H2 : Heap) (locs2 : List Loc) (ls2 : Array Slot), Rel ρ2 x q o → LSt G s ρ2 z2 H2 locs2 → lv_has ls2 8 [(4, .int x4), (0, .ref b), (1, .ref x), (2, .ref q), (3, .ref o)] → W p l e room_1 s m #[Value.ref b] below meth c H2 locs2 (cells + 1) (slots + 8) Q (F0 m 1558 ls2 [])) : W p l e room_1 s m #[Value.ref b] below meth c H locs cells slots Q (F0 m 249 ls []) := by
  obtain ⟨hx, hb, hml, hown, hts, hK, hO, hX, hXs, hbl, hfl⟩ := C
  obtain ⟨hi1, hi2, hi3, hi4, hi5⟩ := hi
  have hlt := hLS.lt
  obtain ⟨hR, hS⟩ := hLS
  have hVS := hS.va
  have hbA : ¬ (fun y => s.heap.size ≤ y) b := Nat.not_le.mpr hbl
  have hcc : cells ≤ room_1.cells ∧ slots ≤ room_1.slots := ⟨Nat.le_trans (Nat.le_succ _) hc, Nat.le_trans (Nat.le_add_right _ _) hs⟩
  obtain ⟨a1, ha1⟩ : ∃ a, xs (x4 + 1).toNatClampNeg = a := ⟨_, rfl⟩
  obtain ⟨a2, ha2⟩ : ∃ a, xs (x4 + 2).toNatClampNeg = a := ⟨_, rfl⟩
  obtain ⟨ux, r, um, g1, f1, g2, f2, hRel2⟩ := sim ρ z x q o a1 a2 hRel hlt
  refine lv_aload_n hx hb dL_law_249 rfl (lv_at hl 2 rfl) ?_
  refine lv_aload_n hx hb dL_law_250 rfl (lv_at hl 1 rfl) ?_
  refine lv_iload hx hb dL_law_251 (lv_at hl 0 rfl) ?_
  refine lv_iconst (v := 1) hx hb dL_law_253 (by decide) ?_
  refine lv_iadd hx hb dL_law_254 ?_
  refine s_ld hx hb hXs hbl hbA hVS hi1 (ha1) dL_law_255 ?_
  refine lv_aload_n hx hb dL_law_256 rfl (lv_at hl 1 rfl) ?_
  refine lv_iload hx hb dL_law_257 (lv_at hl 0 rfl) ?_
  refine lv_iconst (v := 2) hx hb dL_law_259 (by decide) ?_
  refine lv_iadd hx hb dL_law_260 ?_
  refine s_ld hx hb hXs hbl hbA hVS hi2 (ha2) dL_law_261 ?_
  refine r_callV (As := [.int a1, .int a2]) (rest := []) (st1 := [.int r]) ⟨hx, hb, hml, hown, hts⟩ (kX9_window l G ρ x a1 a2 _ f1) (cu_V hts tw_2_33 tw_2_30 tw_2_31 tw_2_32 tw_1_1 hdX9_window rfl rfl ⟨Nat.le_of_ble_eq_true rfl, Nat.le_of_ble_eq_true rfl⟩) hK hR rfl g1 rfl hl.1 rfl (Nat.le_of_ble_eq_true rfl) dL_law_262 hcc rfl ?_
  refine lv_aload_n hx hb dL_law_265 rfl (lv_at hl 3 rfl) ?_
  refine lv_aload_n hx hb dL_law_266 rfl (lv_at hl 1 rfl) ?_
  refine lv_iload hx hb dL_law_267 (lv_at hl 0 rfl) ?_
  refine lv_iconst (v := 1) hx hb dL_law_269 (by decide) ?_
  refine lv_iadd hx hb dL_law_270 ?_
  refine s_ld hx hb hXs hbl hbA hVS hi1 (ha1) dL_law_271 ?_
  refine lv_aload_n hx hb dL_law_272 rfl (lv_at hl 1 rfl) ?_
  refine lv_iload hx hb dL_law_273 (lv_at hl 0 rfl) ?_
  refine lv_iconst (v := 2) hx hb dL_law_275 (by decide) ?_
  refine lv_iadd hx hb dL_law_276 ?_
  refine s_ld hx hb hXs hbl hbA hVS hi2 (ha2) dL_law_277 ?_
  refine r_callV (As := [.int a1, .int a2]) (rest := [.int r]) (st1 := [.int r, .int r]) ⟨hx, hb, hml, hown, hts⟩ (kX10_window l G ρ q a1 a2 _ f2) (cu_V hts tw_5_16 tw_5_13 tw_5_14 tw_5_15 tw_1_4 hdX10_window rfl rfl ⟨Nat.le_of_ble_eq_true rfl, Nat.le_of_ble_eq_true rfl⟩) hK hR rfl g2 rfl hl.1 rfl (Nat.le_of_ble_eq_true rfl) dL_law_278 hcc rfl ?_
  refine lv_icmp_eq (tgt := 1558) hx hb dL_law_281 (by decide) (fun _ => ?_) (fun c9 => absurd rfl c9)
  refine W.widen (k := cells + 1) (n := slots + 8) (by omega) (by omega) ?_
  exact kk _ _ _ _ _ hRel2 ⟨hR, hS⟩ (lv_sub hl [0, 1, 2, 3, 4] rfl)
set_option maxHeartbeats 4000000 in
set_option maxRecDepth 100000 in
theorem lc_at (C : LC p l s m c b L xs G) (sim : Sim_at Rel) (hRel : Rel ρ x q o) (hLS : LSt G s ρ z H locs) (hc : cells + 1 ≤ 601024) (hs : slots + 8 ≤ 7293033) (hi : vp_in (x4 + 1) L ∧ vp_in (x4 + 2) L ∧ vp_in (x4 + 3) L ∧ vp_in (x4 + 4) L ∧ vp_in (x4 + 5) L) (hl : lv_has ls 8 [(4, .int x4), (0, .ref b), (1, .ref x), (2, .ref q), (3, .ref o)])
    (kk : ∀ (ρ2 : Rho) (z2 : Nat) (H2 : Heap) (locs2 : List Loc) (ls2 : Array Slot), Rel ρ2 x q o → LSt G s ρ2 z2 H2 locs2 → lv_has ls2 8 [(4, .int x4), (0, .ref b), (1, .ref x), (2, .ref q), (3, .ref o)] → W p l e room_1 s m #[Value.ref b] below meth c H2 locs2 (cells + 1) (slots + 8) Q (F0 m 1558 ls2 [])) : W p l e room_1 s m #[Value.ref b] below meth c H locs cells slots Q (F0 m 286 ls []) := by
  obtain ⟨hx, hb, hml, hown, hts, hK, hO, hX, hXs, hbl, hfl⟩ := C
  obtain ⟨hi1, hi2, hi3, hi4, hi5⟩ := hi
  have hlt := hLS.lt
  obtain ⟨hR, hS⟩ := hLS
  have hVS := hS.va
  have hbA : ¬ (fun y => s.heap.size ≤ y) b := Nat.not_le.mpr hbl
  have hcc : cells ≤ room_1.cells ∧ slots ≤ room_1.slots := ⟨Nat.le_trans (Nat.le_succ _) hc, Nat.le_trans (Nat.le_add_right _ _) hs⟩
  obtain ⟨a1, ha1⟩ : ∃ a, xs (x4 + 1).toNatClampNeg = a := ⟨_, rfl⟩
  obtain ⟨a2, ha2⟩ : ∃ a, xs (x4 + 2).toNatClampNeg = a := ⟨_, rfl⟩
  obtain ⟨a3, ha3⟩ : ∃ a, xs (x4 + 3).toNatClampNeg = a := ⟨_, rfl⟩
  obtain ⟨ux, r, um, g1, f1, g2, f2, hRel2⟩ := sim ρ z x q o a1 a2 a3 hRel hlt
  refine lv_aload_n hx hb dL_law_286 rfl (lv_at hl 2 rfl) ?_
  refine lv_aload_n hx hb dL_law_287 rfl (lv_at hl 1 rfl) ?_
  refine lv_iload hx hb dL_law_288 (lv_at hl 0 rfl) ?_
  refine lv_iconst (v := 1) hx hb dL_law_290 (by decide) ?_
  refine lv_iadd hx hb dL_law_291 ?_
  refine s_ld hx hb hXs hbl hbA hVS hi1 (ha1) dL_law_292 ?_
  refine lv_aload_n hx hb dL_law_293 rfl (lv_at hl 1 rfl) ?_
  refine lv_iload hx hb dL_law_294 (lv_at hl 0 rfl) ?_
  refine lv_iconst (v := 2) hx hb dL_law_296 (by decide) ?_
  refine lv_iadd hx hb dL_law_297 ?_
  refine s_ld hx hb hXs hbl hbA hVS hi2 (ha2) dL_law_298 ?_
  refine lv_aload_n hx hb dL_law_299 rfl (lv_at hl 1 rfl) ?_
  refine lv_iload hx hb dL_law_300 (lv_at hl 0 rfl) ?_
  refine lv_iconst (v := 3) hx hb dL_law_302 (by decide) ?_
  refine lv_iadd hx hb dL_law_303 ?_
  refine s_ld hx hb hXs hbl hbA hVS hi3 (ha3) dL_law_304 ?_
  refine r_callV (As := [.int a1, .int a2, .int a3]) (rest := []) (st1 := [.int r]) ⟨hx, hb, hml, hown, hts⟩ (kX9_at l G ρ x a1 a2 a3 _ f1) (cu_V hts tw_2_40 tw_2_37 tw_2_38 tw_2_39 tw_1_1 hdX9_at rfl rfl ⟨Nat.le_of_ble_eq_true rfl, Nat.le_of_ble_eq_true rfl⟩) hK hR rfl g1 rfl hl.1 rfl (Nat.le_of_ble_eq_true rfl) dL_law_305 hcc rfl ?_
  refine lv_aload_n hx hb dL_law_308 rfl (lv_at hl 3 rfl) ?_
  refine lv_aload_n hx hb dL_law_309 rfl (lv_at hl 1 rfl) ?_
  refine lv_iload hx hb dL_law_310 (lv_at hl 0 rfl) ?_
  refine lv_iconst (v := 1) hx hb dL_law_312 (by decide) ?_
  refine lv_iadd hx hb dL_law_313 ?_
  refine s_ld hx hb hXs hbl hbA hVS hi1 (ha1) dL_law_314 ?_
  refine lv_aload_n hx hb dL_law_315 rfl (lv_at hl 1 rfl) ?_
  refine lv_iload hx hb dL_law_316 (lv_at hl 0 rfl) ?_
  refine lv_iconst (v := 2) hx hb dL_law_318 (by decide) ?_
  refine lv_iadd hx hb dL_law_319 ?_
  refine s_ld hx hb hXs hbl hbA hVS hi2 (ha2) dL_law_320 ?_
  refine lv_aload_n hx hb dL_law_321 rfl (lv_at hl 1 rfl) ?_
  refine lv_iload hx hb dL_law_322 (lv_at hl 0 rfl) ?_
  refine lv_iconst (v := 3) hx hb dL_law_324 (by decide) ?_
  refine lv_iadd hx hb dL_law_325 ?_
  refine s_ld hx hb hXs hbl hbA hVS hi3 (ha3) dL_law_326 ?_
  refine r_callV (As := [.int a1, .int a2, .int a3]) (rest := [.int r]) (st1 := [.int r, .int r]) ⟨hx, hb, hml, hown, hts⟩ (kX10_at l G ρ q a1 a2 a3 _ f2) (cu_V hts tw_5_20 tw_5_17 tw_5_18 tw_5_19 tw_1_4 hdX10_at rfl rfl ⟨Nat.le_of_ble_eq_true rfl, Nat.le_of_ble_eq_true rfl⟩) hK hR rfl g2 rfl hl.1 rfl (Nat.le_of_ble_eq_true rfl) dL_law_327 hcc rfl ?_
  refine lv_icmp_eq (tgt := 1558) hx hb dL_law_330 (by decide) (fun _ => ?_) (fun c9 => absurd rfl c9)
  refine W.widen (k := cells + 1) (n := slots + 8) (by omega) (by omega) ?_
  exact kk _ _ _ _ _ hRel2 ⟨hR, hS⟩ (lv_sub hl [0, 1, 2, 3, 4] rfl)
set_option maxHeartbeats 4000000 in
set_option maxRecDepth 100000 in
theorem lc_builds (C : LC p l s m c b L xs G) (sim : Sim_builds Rel) (hRel : Rel ρ x q o) (hLS : LSt G s ρ z H locs) (hc : cells + 1 ≤ 601024) (hs : slots + 8 ≤ 7293033) (hi : vp_in (x4 + 1) L ∧ vp_in (x4 + 2) L ∧ vp_in (x4 + 3) L ∧ vp_in (x4 + 4) L ∧ vp_in (x4 + 5) L) (hl : lv_has ls 8 [(4, .int x4), (0, .ref b), (1, .ref x), (2, .ref q), (3, .ref o)])
    (kk : ∀ (ρ2 : Rho) (z2 : Nat) (H2 : Heap) (locs2 : List Loc) (ls2 : Array Slot), Rel ρ2 x q o → LSt G s ρ2 z2 H2 locs2 → lv_has ls2 8 [(4, .int x4), (0, .ref b), (1, .ref x), (2, .ref q), (3, .ref o)] → W p l e room_1 s m #[Value.ref b] below meth c H2 locs2 (cells + 1) (slots + 8) Q (F0 m 1558 ls2 [])) : W p l e room_1 s m #[Value.ref b] below meth c H locs cells slots Q (F0 m 335 ls []) := by
  obtain ⟨hx, hb, hml, hown, hts, hK, hO, hX, hXs, hbl, hfl⟩ := C
  obtain ⟨hi1, hi2, hi3, hi4, hi5⟩ := hi
  have hlt := hLS.lt
  obtain ⟨hR, hS⟩ := hLS
  have hVS := hS.va
  have hbA : ¬ (fun y => s.heap.size ≤ y) b := Nat.not_le.mpr hbl
  have hcc : cells ≤ room_1.cells ∧ slots ≤ room_1.slots := ⟨Nat.le_trans (Nat.le_succ _) hc, Nat.le_trans (Nat.le_add_right _ _) hs⟩
  obtain ⟨a1, ha1⟩ : ∃ a, xs (x4 + 1).toNatClampNeg = a := ⟨_, rfl⟩
  obtain ⟨a2, ha2⟩ : ∃ a, xs (x4 + 2).toNatClampNeg = a := ⟨_, rfl⟩
  obtain ⟨a3, ha3⟩ : ∃ a, xs (x4 + 3).toNatClampNeg = a := ⟨_, rfl⟩
  obtain ⟨ux, r, ρ1, um, ρ2, g1, f1, g2, f2, hRel2⟩ := sim ρ z x q o a1 a2 a3 hRel hlt
  refine lv_aload_n hx hb dL_law_335 rfl (lv_at hl 2 rfl) ?_
  refine lv_aload_n hx hb dL_law_336 rfl (lv_at hl 1 rfl) ?_
  refine lv_iload hx hb dL_law_337 (lv_at hl 0 rfl) ?_
  refine lv_iconst (v := 1) hx hb dL_law_339 (by decide) ?_
  refine lv_iadd hx hb dL_law_340 ?_
  refine s_ld hx hb hXs hbl hbA hVS hi1 (ha1) dL_law_341 ?_
  refine lv_aload_n hx hb dL_law_342 rfl (lv_at hl 1 rfl) ?_
  refine lv_iload hx hb dL_law_343 (lv_at hl 0 rfl) ?_
  refine lv_iconst (v := 2) hx hb dL_law_345 (by decide) ?_
  refine lv_iadd hx hb dL_law_346 ?_
  refine s_ld hx hb hXs hbl hbA hVS hi2 (ha2) dL_law_347 ?_
  refine lv_aload_n hx hb dL_law_348 rfl (lv_at hl 1 rfl) ?_
  refine lv_iload hx hb dL_law_349 (lv_at hl 0 rfl) ?_
  refine lv_iconst (v := 3) hx hb dL_law_351 (by decide) ?_
  refine lv_iadd hx hb dL_law_352 ?_
  refine s_ld hx hb hXs hbl hbA hVS hi3 (ha3) dL_law_353 ?_
  refine aw_callV (As := [.int a1, .int a2, .int a3]) (rest := []) (st1 := [.int r]) ⟨hx, hb, hml, hown, hts⟩ (kX9_builds l G ρ x a1 a2 a3 _ _ f1) (cu_V hts tw_2_68 tw_2_65 tw_2_66 tw_2_67 tw_1_1 hdX9_builds rfl rfl ⟨Nat.le_of_ble_eq_true rfl, Nat.le_of_ble_eq_true rfl⟩) hK hR hS rfl g1 rfl hl.1 rfl (Nat.le_of_ble_eq_true rfl) dL_law_354 hcc rfl (fun H locs hR hS => ?_)
  have hVS := hS.va
  refine lv_aload_n hx hb dL_law_357 rfl (lv_at hl 3 rfl) ?_
  refine lv_aload_n hx hb dL_law_358 rfl (lv_at hl 1 rfl) ?_
  refine lv_iload hx hb dL_law_359 (lv_at hl 0 rfl) ?_
  refine lv_iconst (v := 1) hx hb dL_law_361 (by decide) ?_
  refine lv_iadd hx hb dL_law_362 ?_
  refine s_ld hx hb hXs hbl hbA hVS hi1 (ha1) dL_law_363 ?_
  refine lv_aload_n hx hb dL_law_364 rfl (lv_at hl 1 rfl) ?_
  refine lv_iload hx hb dL_law_365 (lv_at hl 0 rfl) ?_
  refine lv_iconst (v := 2) hx hb dL_law_367 (by decide) ?_
  refine lv_iadd hx hb dL_law_368 ?_
  refine s_ld hx hb hXs hbl hbA hVS hi2 (ha2) dL_law_369 ?_
  refine lv_aload_n hx hb dL_law_370 rfl (lv_at hl 1 rfl) ?_
  refine lv_iload hx hb dL_law_371 (lv_at hl 0 rfl) ?_
  refine lv_iconst (v := 3) hx hb dL_law_373 (by decide) ?_
  refine lv_iadd hx hb dL_law_374 ?_
  refine s_ld hx hb hXs hbl hbA hVS hi3 (ha3) dL_law_375 ?_
  refine aw_callV (As := [.int a1, .int a2, .int a3]) (rest := [.int r]) (st1 := [.int r, .int r]) ⟨hx, hb, hml, hown, hts⟩ (kX10_builds l G ρ1 q a1 a2 a3 _ _ f2) (cu_V hts tw_5_39 tw_5_36 tw_5_37 tw_5_38 tw_1_4 hdX10_builds rfl rfl ⟨Nat.le_of_ble_eq_true rfl, Nat.le_of_ble_eq_true rfl⟩) hK hR hS rfl g2 rfl hl.1 rfl (Nat.le_of_ble_eq_true rfl) dL_law_376 hcc rfl (fun H locs hR hS => ?_)
  refine lv_icmp_eq (tgt := 1558) hx hb dL_law_379 (by decide) (fun _ => ?_) (fun c9 => absurd rfl c9)
  refine W.widen (k := cells + 1) (n := slots + 8) (by omega) (by omega) ?_
  exact kk _ _ _ _ _ hRel2 ⟨hR, hS⟩ (lv_sub hl [0, 1, 2, 3, 4] rfl)
set_option maxHeartbeats 4000000 in
set_option maxRecDepth 100000 in
theorem lc_stops (C : LC p l s m c b L xs G) (sim : Sim_stops Rel) (hRel : Rel ρ x q o) (hLS : LSt G s ρ z H locs) (hc : cells + 1 ≤ 601024) (hs : slots + 8 ≤ 7293033) (hi : vp_in (x4 + 1) L ∧ vp_in (x4 + 2) L ∧ vp_in (x4 + 3) L ∧ vp_in (x4 + 4) L ∧ vp_in (x4 + 5) L) (hl : lv_has ls 8 [(4, .int x4), (0, .ref b), (1, .ref x), (2, .ref q), (3, .ref o)])
    (kk : ∀ (ρ2 : Rho) (z2 : Nat) (H2 : Heap) (locs2 : List Loc) (ls2 : Array Slot), Rel ρ2 x q o → LSt G s ρ2 z2 H2 locs2 → lv_has ls2 8 [(4, .int x4), (0, .ref b), (1, .ref x), (2, .ref q), (3, .ref o)] → W p l e room_1 s m #[Value.ref b] below meth c H2 locs2 (cells + 1) (slots + 8) Q (F0 m 1558 ls2 [])) : W p l e room_1 s m #[Value.ref b] below meth c H locs cells slots Q (F0 m 384 ls []) := by
  obtain ⟨hx, hb, hml, hown, hts, hK, hO, hX, hXs, hbl, hfl⟩ := C
  obtain ⟨hi1, hi2, hi3, hi4, hi5⟩ := hi
  have hlt := hLS.lt
  obtain ⟨hR, hS⟩ := hLS
  have hVS := hS.va
  have hbA : ¬ (fun y => s.heap.size ≤ y) b := Nat.not_le.mpr hbl
  have hcc : cells ≤ room_1.cells ∧ slots ≤ room_1.slots := ⟨Nat.le_trans (Nat.le_succ _) hc, Nat.le_trans (Nat.le_add_right _ _) hs⟩
  obtain ⟨a1, ha1⟩ : ∃ a, xs (x4 + 1).toNatClampNeg = a := ⟨_, rfl⟩
  obtain ⟨ux, r, ρ1, um, ρ2, g1, f1, g2, f2, hRel2⟩ := sim ρ z x q o a1 hRel hlt
  refine lv_aload_n hx hb dL_law_384 rfl (lv_at hl 2 rfl) ?_
  refine lv_aload_n hx hb dL_law_385 rfl (lv_at hl 1 rfl) ?_
  refine lv_iload hx hb dL_law_386 (lv_at hl 0 rfl) ?_
  refine lv_iconst (v := 1) hx hb dL_law_388 (by decide) ?_
  refine lv_iadd hx hb dL_law_389 ?_
  refine s_ld hx hb hXs hbl hbA hVS hi1 (ha1) dL_law_390 ?_
  refine aw_callV (As := [.int a1]) (rest := []) (st1 := [.int r]) ⟨hx, hb, hml, hown, hts⟩ (kX9_stops l G ρ x a1 _ _ f1) (cu_V hts tw_2_78 tw_2_75 tw_2_76 tw_2_77 tw_1_1 hdX9_stops rfl rfl ⟨Nat.le_of_ble_eq_true rfl, Nat.le_of_ble_eq_true rfl⟩) hK hR hS rfl g1 rfl hl.1 rfl (Nat.le_of_ble_eq_true rfl) dL_law_391 hcc rfl (fun H locs hR hS => ?_)
  have hVS := hS.va
  refine lv_aload_n hx hb dL_law_394 rfl (lv_at hl 3 rfl) ?_
  refine lv_aload_n hx hb dL_law_395 rfl (lv_at hl 1 rfl) ?_
  refine lv_iload hx hb dL_law_396 (lv_at hl 0 rfl) ?_
  refine lv_iconst (v := 1) hx hb dL_law_398 (by decide) ?_
  refine lv_iadd hx hb dL_law_399 ?_
  refine s_ld hx hb hXs hbl hbA hVS hi1 (ha1) dL_law_400 ?_
  refine aw_callV (As := [.int a1]) (rest := [.int r]) (st1 := [.int r, .int r]) ⟨hx, hb, hml, hown, hts⟩ (kX10_stops l G ρ1 q a1 _ _ f2) (cu_V hts tw_5_47 tw_5_44 tw_5_45 tw_5_46 tw_1_4 hdX10_stops rfl rfl ⟨Nat.le_of_ble_eq_true rfl, Nat.le_of_ble_eq_true rfl⟩) hK hR hS rfl g2 rfl hl.1 rfl (Nat.le_of_ble_eq_true rfl) dL_law_401 hcc rfl (fun H locs hR hS => ?_)
  refine lv_icmp_eq (tgt := 1558) hx hb dL_law_404 (by decide) (fun _ => ?_) (fun c9 => absurd rfl c9)
  refine W.widen (k := cells + 1) (n := slots + 8) (by omega) (by omega) ?_
  exact kk _ _ _ _ _ hRel2 ⟨hR, hS⟩ (lv_sub hl [0, 1, 2, 3, 4] rfl)
set_option maxHeartbeats 4000000 in
set_option maxRecDepth 100000 in
theorem lc_needs (C : LC p l s m c b L xs G) (sim : Sim_needs Rel) (hRel : Rel ρ x q o) (hLS : LSt G s ρ z H locs) (hc : cells + 1 ≤ 601024) (hs : slots + 8 ≤ 7293033) (hi : vp_in (x4 + 1) L ∧ vp_in (x4 + 2) L ∧ vp_in (x4 + 3) L ∧ vp_in (x4 + 4) L ∧ vp_in (x4 + 5) L) (hl : lv_has ls 8 [(4, .int x4), (0, .ref b), (1, .ref x), (2, .ref q), (3, .ref o)])
    (kk : ∀ (ρ2 : Rho) (z2 : Nat) (H2 : Heap) (locs2 : List Loc) (ls2 : Array Slot), Rel ρ2 x q o → LSt G s ρ2 z2 H2 locs2 → lv_has ls2 8 [(4, .int x4), (0, .ref b), (1, .ref x), (2, .ref q), (3, .ref o)] → W p l e room_1 s m #[Value.ref b] below meth c H2 locs2 (cells + 1) (slots + 8) Q (F0 m 1558 ls2 [])) : W p l e room_1 s m #[Value.ref b] below meth c H locs cells slots Q (F0 m 409 ls []) := by
  obtain ⟨hx, hb, hml, hown, hts, hK, hO, hX, hXs, hbl, hfl⟩ := C
  obtain ⟨hi1, hi2, hi3, hi4, hi5⟩ := hi
  have hlt := hLS.lt
  obtain ⟨hR, hS⟩ := hLS
  have hVS := hS.va
  have hbA : ¬ (fun y => s.heap.size ≤ y) b := Nat.not_le.mpr hbl
  have hcc : cells ≤ room_1.cells ∧ slots ≤ room_1.slots := ⟨Nat.le_trans (Nat.le_succ _) hc, Nat.le_trans (Nat.le_add_right _ _) hs⟩
  obtain ⟨a1, ha1⟩ : ∃ a, xs (x4 + 1).toNatClampNeg = a := ⟨_, rfl⟩
  obtain ⟨a2, ha2⟩ : ∃ a, xs (x4 + 2).toNatClampNeg = a := ⟨_, rfl⟩
  obtain ⟨ux, r, ρ1, um, ρ2, g1, f1, g2, f2, hRel2⟩ := sim ρ z x q o a1 a2 hRel hlt
  refine lv_aload_n hx hb dL_law_409 rfl (lv_at hl 2 rfl) ?_
  refine lv_aload_n hx hb dL_law_410 rfl (lv_at hl 1 rfl) ?_
  refine lv_iload hx hb dL_law_411 (lv_at hl 0 rfl) ?_
  refine lv_iconst (v := 1) hx hb dL_law_413 (by decide) ?_
  refine lv_iadd hx hb dL_law_414 ?_
  refine s_ld hx hb hXs hbl hbA hVS hi1 (ha1) dL_law_415 ?_
  refine lv_aload_n hx hb dL_law_416 rfl (lv_at hl 1 rfl) ?_
  refine lv_iload hx hb dL_law_417 (lv_at hl 0 rfl) ?_
  refine lv_iconst (v := 2) hx hb dL_law_419 (by decide) ?_
  refine lv_iadd hx hb dL_law_420 ?_
  refine s_ld hx hb hXs hbl hbA hVS hi2 (ha2) dL_law_421 ?_
  refine aw_callV (As := [.int a1, .int a2]) (rest := []) (st1 := [.int r]) ⟨hx, hb, hml, hown, hts⟩ (kX9_needs l G ρ x a1 a2 _ _ f1) (cu_V hts tw_2_83 tw_2_80 tw_2_81 tw_2_82 tw_1_1 hdX9_needs rfl rfl ⟨Nat.le_of_ble_eq_true rfl, Nat.le_of_ble_eq_true rfl⟩) hK hR hS rfl g1 rfl hl.1 rfl (Nat.le_of_ble_eq_true rfl) dL_law_422 hcc rfl (fun H locs hR hS => ?_)
  have hVS := hS.va
  refine lv_aload_n hx hb dL_law_425 rfl (lv_at hl 3 rfl) ?_
  refine lv_aload_n hx hb dL_law_426 rfl (lv_at hl 1 rfl) ?_
  refine lv_iload hx hb dL_law_427 (lv_at hl 0 rfl) ?_
  refine lv_iconst (v := 1) hx hb dL_law_429 (by decide) ?_
  refine lv_iadd hx hb dL_law_430 ?_
  refine s_ld hx hb hXs hbl hbA hVS hi1 (ha1) dL_law_431 ?_
  refine lv_aload_n hx hb dL_law_432 rfl (lv_at hl 1 rfl) ?_
  refine lv_iload hx hb dL_law_433 (lv_at hl 0 rfl) ?_
  refine lv_iconst (v := 2) hx hb dL_law_435 (by decide) ?_
  refine lv_iadd hx hb dL_law_436 ?_
  refine s_ld hx hb hXs hbl hbA hVS hi2 (ha2) dL_law_437 ?_
  refine aw_callV (As := [.int a1, .int a2]) (rest := [.int r]) (st1 := [.int r, .int r]) ⟨hx, hb, hml, hown, hts⟩ (kX10_needs l G ρ1 q a1 a2 _ _ f2) (cu_V hts tw_5_51 tw_5_48 tw_5_49 tw_5_50 tw_1_4 hdX10_needs rfl rfl ⟨Nat.le_of_ble_eq_true rfl, Nat.le_of_ble_eq_true rfl⟩) hK hR hS rfl g2 rfl hl.1 rfl (Nat.le_of_ble_eq_true rfl) dL_law_438 hcc rfl (fun H locs hR hS => ?_)
  refine lv_icmp_eq (tgt := 1558) hx hb dL_law_441 (by decide) (fun _ => ?_) (fun c9 => absurd rfl c9)
  refine W.widen (k := cells + 1) (n := slots + 8) (by omega) (by omega) ?_
  exact kk _ _ _ _ _ hRel2 ⟨hR, hS⟩ (lv_sub hl [0, 1, 2, 3, 4] rfl)
set_option maxHeartbeats 4000000 in
set_option maxRecDepth 100000 in
theorem lc_set (C : LC p l s m c b L xs G) (sim : Sim_set Rel) (hRel : Rel ρ x q o) (hLS : LSt G s ρ z H locs) (hc : cells + 1 ≤ 601024) (hs : slots + 8 ≤ 7293033) (hi : vp_in (x4 + 1) L ∧ vp_in (x4 + 2) L ∧ vp_in (x4 + 3) L ∧ vp_in (x4 + 4) L ∧ vp_in (x4 + 5) L) (hl : lv_has ls 8 [(4, .int x4), (0, .ref b), (1, .ref x), (2, .ref q), (3, .ref o)])
    (kk : ∀ (ρ2 : Rho) (z2 : Nat) (H2 : Heap) (locs2 : List Loc) (ls2 : Array Slot), Rel ρ2 x q o → LSt G s ρ2 z2 H2 locs2 → lv_has ls2 8 [(4, .int x4), (0, .ref b), (1, .ref x), (2, .ref q), (3, .ref o)] → W p l e room_1 s m #[Value.ref b] below meth c H2 locs2 (cells + 1) (slots + 8) Q (F0 m 1558 ls2 [])) : W p l e room_1 s m #[Value.ref b] below meth c H locs cells slots Q (F0 m 446 ls []) := by
  obtain ⟨hx, hb, hml, hown, hts, hK, hO, hX, hXs, hbl, hfl⟩ := C
  obtain ⟨hi1, hi2, hi3, hi4, hi5⟩ := hi
  have hlt := hLS.lt
  obtain ⟨hR, hS⟩ := hLS
  have hVS := hS.va
  have hbA : ¬ (fun y => s.heap.size ≤ y) b := Nat.not_le.mpr hbl
  have hcc : cells ≤ room_1.cells ∧ slots ≤ room_1.slots := ⟨Nat.le_trans (Nat.le_succ _) hc, Nat.le_trans (Nat.le_add_right _ _) hs⟩
  obtain ⟨a1, ha1⟩ : ∃ a, xs (x4 + 1).toNatClampNeg = a := ⟨_, rfl⟩
  obtain ⟨a2, ha2⟩ : ∃ a, xs (x4 + 2).toNatClampNeg = a := ⟨_, rfl⟩
  obtain ⟨ux, r, ρ1, um, ρ2, g1, f1, g2, f2, hRel2⟩ := sim ρ z x q o a1 a2 hRel hlt
  refine lv_aload_n hx hb dL_law_446 rfl (lv_at hl 2 rfl) ?_
  refine lv_aload_n hx hb dL_law_447 rfl (lv_at hl 1 rfl) ?_
  refine lv_iload hx hb dL_law_448 (lv_at hl 0 rfl) ?_
  refine lv_iconst (v := 1) hx hb dL_law_450 (by decide) ?_
  refine lv_iadd hx hb dL_law_451 ?_
  refine s_ld hx hb hXs hbl hbA hVS hi1 (ha1) dL_law_452 ?_
  refine lv_aload_n hx hb dL_law_453 rfl (lv_at hl 1 rfl) ?_
  refine lv_iload hx hb dL_law_454 (lv_at hl 0 rfl) ?_
  refine lv_iconst (v := 2) hx hb dL_law_456 (by decide) ?_
  refine lv_iadd hx hb dL_law_457 ?_
  refine s_ld hx hb hXs hbl hbA hVS hi2 (ha2) dL_law_458 ?_
  refine aw_callV (As := [.int a1, .int a2]) (rest := []) (st1 := [.int r]) ⟨hx, hb, hml, hown, hts⟩ (kX9_set l G ρ x a1 a2 _ _ f1) (cu_V hts tw_2_88 tw_2_85 tw_2_86 tw_2_87 tw_1_1 hdX9_set rfl rfl ⟨Nat.le_of_ble_eq_true rfl, Nat.le_of_ble_eq_true rfl⟩) hK hR hS rfl g1 rfl hl.1 rfl (Nat.le_of_ble_eq_true rfl) dL_law_459 hcc rfl (fun H locs hR hS => ?_)
  have hVS := hS.va
  refine lv_aload_n hx hb dL_law_462 rfl (lv_at hl 3 rfl) ?_
  refine lv_aload_n hx hb dL_law_463 rfl (lv_at hl 1 rfl) ?_
  refine lv_iload hx hb dL_law_464 (lv_at hl 0 rfl) ?_
  refine lv_iconst (v := 1) hx hb dL_law_466 (by decide) ?_
  refine lv_iadd hx hb dL_law_467 ?_
  refine s_ld hx hb hXs hbl hbA hVS hi1 (ha1) dL_law_468 ?_
  refine lv_aload_n hx hb dL_law_469 rfl (lv_at hl 1 rfl) ?_
  refine lv_iload hx hb dL_law_470 (lv_at hl 0 rfl) ?_
  refine lv_iconst (v := 2) hx hb dL_law_472 (by decide) ?_
  refine lv_iadd hx hb dL_law_473 ?_
  refine s_ld hx hb hXs hbl hbA hVS hi2 (ha2) dL_law_474 ?_
  refine aw_callV (As := [.int a1, .int a2]) (rest := [.int r]) (st1 := [.int r, .int r]) ⟨hx, hb, hml, hown, hts⟩ (kX10_set l G ρ1 q a1 a2 _ _ f2) (cu_V hts tw_5_55 tw_5_52 tw_5_53 tw_5_54 tw_1_4 hdX10_set rfl rfl ⟨Nat.le_of_ble_eq_true rfl, Nat.le_of_ble_eq_true rfl⟩) hK hR hS rfl g2 rfl hl.1 rfl (Nat.le_of_ble_eq_true rfl) dL_law_475 hcc rfl (fun H locs hR hS => ?_)
  refine lv_icmp_eq (tgt := 1558) hx hb dL_law_478 (by decide) (fun _ => ?_) (fun c9 => absurd rfl c9)
  refine W.widen (k := cells + 1) (n := slots + 8) (by omega) (by omega) ?_
  exact kk _ _ _ _ _ hRel2 ⟨hR, hS⟩ (lv_sub hl [0, 1, 2, 3, 4] rfl)
set_option maxHeartbeats 4000000 in
set_option maxRecDepth 100000 in
theorem lc_years (C : LC p l s m c b L xs G) (sim : Sim_years Rel) (hRel : Rel ρ x q o) (hLS : LSt G s ρ z H locs) (hc : cells + 1 ≤ 601024) (hs : slots + 8 ≤ 7293033) (hi : vp_in (x4 + 1) L ∧ vp_in (x4 + 2) L ∧ vp_in (x4 + 3) L ∧ vp_in (x4 + 4) L ∧ vp_in (x4 + 5) L) (hl : lv_has ls 8 [(4, .int x4), (0, .ref b), (1, .ref x), (2, .ref q), (3, .ref o)])
    (kk : ∀ (ρ2 : Rho) (z2 : Nat) (H2 : Heap) (locs2 : List Loc) (ls2 : Array Slot), Rel ρ2 x q o → LSt G s ρ2 z2 H2 locs2 → lv_has ls2 8 [(4, .int x4), (0, .ref b), (1, .ref x), (2, .ref q), (3, .ref o)] → W p l e room_1 s m #[Value.ref b] below meth c H2 locs2 (cells + 1) (slots + 8) Q (F0 m 1558 ls2 [])) : W p l e room_1 s m #[Value.ref b] below meth c H locs cells slots Q (F0 m 483 ls []) := by
  obtain ⟨hx, hb, hml, hown, hts, hK, hO, hX, hXs, hbl, hfl⟩ := C
  obtain ⟨hi1, hi2, hi3, hi4, hi5⟩ := hi
  have hlt := hLS.lt
  obtain ⟨hR, hS⟩ := hLS
  have hVS := hS.va
  have hbA : ¬ (fun y => s.heap.size ≤ y) b := Nat.not_le.mpr hbl
  have hcc : cells ≤ room_1.cells ∧ slots ≤ room_1.slots := ⟨Nat.le_trans (Nat.le_succ _) hc, Nat.le_trans (Nat.le_add_right _ _) hs⟩
  obtain ⟨a1, ha1⟩ : ∃ a, xs (x4 + 1).toNatClampNeg = a := ⟨_, rfl⟩
  obtain ⟨ux, r, ρ1, um, ρ2, g1, f1, g2, f2, hRel2⟩ := sim ρ z x q o a1 hRel hlt
  refine lv_aload_n hx hb dL_law_483 rfl (lv_at hl 2 rfl) ?_
  refine lv_aload_n hx hb dL_law_484 rfl (lv_at hl 1 rfl) ?_
  refine lv_iload hx hb dL_law_485 (lv_at hl 0 rfl) ?_
  refine lv_iconst (v := 1) hx hb dL_law_487 (by decide) ?_
  refine lv_iadd hx hb dL_law_488 ?_
  refine s_ld hx hb hXs hbl hbA hVS hi1 (ha1) dL_law_489 ?_
  refine aw_callV (As := [.int a1]) (rest := []) (st1 := [.int r]) ⟨hx, hb, hml, hown, hts⟩ (kX9_years l G ρ x a1 _ _ f1) (cu_V hts tw_2_94 tw_2_91 tw_2_92 tw_2_93 tw_1_1 hdX9_years rfl rfl ⟨Nat.le_of_ble_eq_true rfl, Nat.le_of_ble_eq_true rfl⟩) hK hR hS rfl g1 rfl hl.1 rfl (Nat.le_of_ble_eq_true rfl) dL_law_490 hcc rfl (fun H locs hR hS => ?_)
  have hVS := hS.va
  refine lv_aload_n hx hb dL_law_493 rfl (lv_at hl 3 rfl) ?_
  refine lv_aload_n hx hb dL_law_494 rfl (lv_at hl 1 rfl) ?_
  refine lv_iload hx hb dL_law_495 (lv_at hl 0 rfl) ?_
  refine lv_iconst (v := 1) hx hb dL_law_497 (by decide) ?_
  refine lv_iadd hx hb dL_law_498 ?_
  refine s_ld hx hb hXs hbl hbA hVS hi1 (ha1) dL_law_499 ?_
  refine aw_callV (As := [.int a1]) (rest := [.int r]) (st1 := [.int r, .int r]) ⟨hx, hb, hml, hown, hts⟩ (kX10_years l G ρ1 q a1 _ _ f2) (cu_V hts tw_5_59 tw_5_56 tw_5_57 tw_5_58 tw_1_4 hdX10_years rfl rfl ⟨Nat.le_of_ble_eq_true rfl, Nat.le_of_ble_eq_true rfl⟩) hK hR hS rfl g2 rfl hl.1 rfl (Nat.le_of_ble_eq_true rfl) dL_law_500 hcc rfl (fun H locs hR hS => ?_)
  refine lv_icmp_eq (tgt := 1558) hx hb dL_law_503 (by decide) (fun _ => ?_) (fun c9 => absurd rfl c9)
  refine W.widen (k := cells + 1) (n := slots + 8) (by omega) (by omega) ?_
  exact kk _ _ _ _ _ hRel2 ⟨hR, hS⟩ (lv_sub hl [0, 1, 2, 3, 4] rfl)
set_option maxHeartbeats 4000000 in
set_option maxRecDepth 100000 in
theorem lc_pays (C : LC p l s m c b L xs G) (sim : Sim_pays Rel) (hRel : Rel ρ x q o) (hLS : LSt G s ρ z H locs) (hc : cells + 1 ≤ 601024) (hs : slots + 8 ≤ 7293033) (hi : vp_in (x4 + 1) L ∧ vp_in (x4 + 2) L ∧ vp_in (x4 + 3) L ∧ vp_in (x4 + 4) L ∧ vp_in (x4 + 5) L) (hl : lv_has ls 8 [(4, .int x4), (0, .ref b), (1, .ref x), (2, .ref q), (3, .ref o)])
    (kk : ∀ (ρ2 : Rho) (z2 : Nat) (H2 : Heap) (locs2 : List Loc) (ls2 : Array Slot), Rel ρ2 x q o → LSt G s ρ2 z2 H2 locs2 → lv_has ls2 8 [(4, .int x4), (0, .ref b), (1, .ref x), (2, .ref q), (3, .ref o)] → W p l e room_1 s m #[Value.ref b] below meth c H2 locs2 (cells + 1) (slots + 8) Q (F0 m 1558 ls2 [])) : W p l e room_1 s m #[Value.ref b] below meth c H locs cells slots Q (F0 m 508 ls []) := by
  obtain ⟨hx, hb, hml, hown, hts, hK, hO, hX, hXs, hbl, hfl⟩ := C
  obtain ⟨hi1, hi2, hi3, hi4, hi5⟩ := hi
  have hlt := hLS.lt
  obtain ⟨hR, hS⟩ := hLS
  have hVS := hS.va
  have hbA : ¬ (fun y => s.heap.size ≤ y) b := Nat.not_le.mpr hbl
  have hcc : cells ≤ room_1.cells ∧ slots ≤ room_1.slots := ⟨Nat.le_trans (Nat.le_succ _) hc, Nat.le_trans (Nat.le_add_right _ _) hs⟩
  obtain ⟨a1, ha1⟩ : ∃ a, xs (x4 + 1).toNatClampNeg = a := ⟨_, rfl⟩
  obtain ⟨ux, r, ρ1, um, ρ2, g1, f1, g2, f2, hRel2⟩ := sim ρ z x q o a1 hRel hlt
  refine lv_aload_n hx hb dL_law_508 rfl (lv_at hl 2 rfl) ?_
  refine lv_aload_n hx hb dL_law_509 rfl (lv_at hl 1 rfl) ?_
  refine lv_iload hx hb dL_law_510 (lv_at hl 0 rfl) ?_
  refine lv_iconst (v := 1) hx hb dL_law_512 (by decide) ?_
  refine lv_iadd hx hb dL_law_513 ?_
  refine s_ld hx hb hXs hbl hbA hVS hi1 (ha1) dL_law_514 ?_
  refine aw_callV (As := [.int a1]) (rest := []) (st1 := [.int r]) ⟨hx, hb, hml, hown, hts⟩ (kX9_pays l G ρ x a1 _ _ f1) (cu_V hts tw_2_99 tw_2_96 tw_2_97 tw_2_98 tw_1_1 hdX9_pays rfl rfl ⟨Nat.le_of_ble_eq_true rfl, Nat.le_of_ble_eq_true rfl⟩) hK hR hS rfl g1 rfl hl.1 rfl (Nat.le_of_ble_eq_true rfl) dL_law_515 hcc rfl (fun H locs hR hS => ?_)
  have hVS := hS.va
  refine lv_aload_n hx hb dL_law_518 rfl (lv_at hl 3 rfl) ?_
  refine lv_aload_n hx hb dL_law_519 rfl (lv_at hl 1 rfl) ?_
  refine lv_iload hx hb dL_law_520 (lv_at hl 0 rfl) ?_
  refine lv_iconst (v := 1) hx hb dL_law_522 (by decide) ?_
  refine lv_iadd hx hb dL_law_523 ?_
  refine s_ld hx hb hXs hbl hbA hVS hi1 (ha1) dL_law_524 ?_
  refine aw_callV (As := [.int a1]) (rest := [.int r]) (st1 := [.int r, .int r]) ⟨hx, hb, hml, hown, hts⟩ (kX10_pays l G ρ1 q a1 _ _ f2) (cu_V hts tw_5_63 tw_5_60 tw_5_61 tw_5_62 tw_1_4 hdX10_pays rfl rfl ⟨Nat.le_of_ble_eq_true rfl, Nat.le_of_ble_eq_true rfl⟩) hK hR hS rfl g2 rfl hl.1 rfl (Nat.le_of_ble_eq_true rfl) dL_law_525 hcc rfl (fun H locs hR hS => ?_)
  refine lv_icmp_eq (tgt := 1558) hx hb dL_law_528 (by decide) (fun _ => ?_) (fun c9 => absurd rfl c9)
  refine W.widen (k := cells + 1) (n := slots + 8) (by omega) (by omega) ?_
  exact kk _ _ _ _ _ hRel2 ⟨hR, hS⟩ (lv_sub hl [0, 1, 2, 3, 4] rfl)
set_option maxHeartbeats 4000000 in
set_option maxRecDepth 100000 in
theorem lc_light (C : LC p l s m c b L xs G) (sim : Sim_light Rel) (hRel : Rel ρ x q o) (hLS : LSt G s ρ z H locs) (hc : cells + 1 ≤ 601024) (hs : slots + 8 ≤ 7293033) (hi : vp_in (x4 + 1) L ∧ vp_in (x4 + 2) L ∧ vp_in (x4 + 3) L ∧ vp_in (x4 + 4) L ∧ vp_in (x4 + 5) L) (hl : lv_has ls 8 [(4, .int x4), (0, .ref b), (1, .ref x), (2, .ref q), (3, .ref o)])
    (kk : ∀ (ρ2 : Rho) (z2 : Nat) (H2 : Heap) (locs2 : List Loc) (ls2 : Array Slot), Rel ρ2 x q o → LSt G s ρ2 z2 H2 locs2 → lv_has ls2 8 [(4, .int x4), (0, .ref b), (1, .ref x), (2, .ref q), (3, .ref o)] → W p l e room_1 s m #[Value.ref b] below meth c H2 locs2 (cells + 1) (slots + 8) Q (F0 m 1558 ls2 [])) : W p l e room_1 s m #[Value.ref b] below meth c H locs cells slots Q (F0 m 533 ls []) := by
  obtain ⟨hx, hb, hml, hown, hts, hK, hO, hX, hXs, hbl, hfl⟩ := C
  obtain ⟨hi1, hi2, hi3, hi4, hi5⟩ := hi
  have hlt := hLS.lt
  obtain ⟨hR, hS⟩ := hLS
  have hVS := hS.va
  have hbA : ¬ (fun y => s.heap.size ≤ y) b := Nat.not_le.mpr hbl
  have hcc : cells ≤ room_1.cells ∧ slots ≤ room_1.slots := ⟨Nat.le_trans (Nat.le_succ _) hc, Nat.le_trans (Nat.le_add_right _ _) hs⟩
  obtain ⟨a1, ha1⟩ : ∃ a, xs (x4 + 1).toNatClampNeg = a := ⟨_, rfl⟩
  obtain ⟨a2, ha2⟩ : ∃ a, xs (x4 + 2).toNatClampNeg = a := ⟨_, rfl⟩
  obtain ⟨ux, r, um, g1, f1, g2, f2, hRel2⟩ := sim ρ z x q o a1 a2 hRel hlt
  refine lv_aload_n hx hb dL_law_533 rfl (lv_at hl 2 rfl) ?_
  refine lv_aload_n hx hb dL_law_534 rfl (lv_at hl 1 rfl) ?_
  refine lv_iload hx hb dL_law_535 (lv_at hl 0 rfl) ?_
  refine lv_iconst (v := 1) hx hb dL_law_537 (by decide) ?_
  refine lv_iadd hx hb dL_law_538 ?_
  refine s_ld hx hb hXs hbl hbA hVS hi1 (ha1) dL_law_539 ?_
  refine lv_aload_n hx hb dL_law_540 rfl (lv_at hl 1 rfl) ?_
  refine lv_iload hx hb dL_law_541 (lv_at hl 0 rfl) ?_
  refine lv_iconst (v := 2) hx hb dL_law_543 (by decide) ?_
  refine lv_iadd hx hb dL_law_544 ?_
  refine s_ld hx hb hXs hbl hbA hVS hi2 (ha2) dL_law_545 ?_
  refine r_callV (As := [.int a1, .int a2]) (rest := []) (st1 := [.int r]) ⟨hx, hb, hml, hown, hts⟩ (kX9_light l G ρ x a1 a2 _ f1) (cu_V hts tw_2_104 tw_2_101 tw_2_102 tw_2_103 tw_1_1 hdX9_light rfl rfl ⟨Nat.le_of_ble_eq_true rfl, Nat.le_of_ble_eq_true rfl⟩) hK hR rfl g1 rfl hl.1 rfl (Nat.le_of_ble_eq_true rfl) dL_law_546 hcc rfl ?_
  refine lv_aload_n hx hb dL_law_549 rfl (lv_at hl 3 rfl) ?_
  refine lv_aload_n hx hb dL_law_550 rfl (lv_at hl 1 rfl) ?_
  refine lv_iload hx hb dL_law_551 (lv_at hl 0 rfl) ?_
  refine lv_iconst (v := 1) hx hb dL_law_553 (by decide) ?_
  refine lv_iadd hx hb dL_law_554 ?_
  refine s_ld hx hb hXs hbl hbA hVS hi1 (ha1) dL_law_555 ?_
  refine lv_aload_n hx hb dL_law_556 rfl (lv_at hl 1 rfl) ?_
  refine lv_iload hx hb dL_law_557 (lv_at hl 0 rfl) ?_
  refine lv_iconst (v := 2) hx hb dL_law_559 (by decide) ?_
  refine lv_iadd hx hb dL_law_560 ?_
  refine s_ld hx hb hXs hbl hbA hVS hi2 (ha2) dL_law_561 ?_
  refine r_callV (As := [.int a1, .int a2]) (rest := [.int r]) (st1 := [.int r, .int r]) ⟨hx, hb, hml, hown, hts⟩ (kX10_light l G ρ q a1 a2 _ f2) (cu_V hts tw_5_67 tw_5_64 tw_5_65 tw_5_66 tw_1_4 hdX10_light rfl rfl ⟨Nat.le_of_ble_eq_true rfl, Nat.le_of_ble_eq_true rfl⟩) hK hR rfl g2 rfl hl.1 rfl (Nat.le_of_ble_eq_true rfl) dL_law_562 hcc rfl ?_
  refine lv_icmp_eq (tgt := 1558) hx hb dL_law_565 (by decide) (fun _ => ?_) (fun c9 => absurd rfl c9)
  refine W.widen (k := cells + 1) (n := slots + 8) (by omega) (by omega) ?_
  exact kk _ _ _ _ _ hRel2 ⟨hR, hS⟩ (lv_sub hl [0, 1, 2, 3, 4] rfl)
set_option maxHeartbeats 4000000 in
set_option maxRecDepth 100000 in
theorem lc_allDue (C : LC p l s m c b L xs G) (sim : Sim_allDue Rel) (hRel : Rel ρ x q o) (hLS : LSt G s ρ z H locs) (hc : cells + 1 ≤ 601024) (hs : slots + 8 ≤ 7293033) (hi : vp_in (x4 + 1) L ∧ vp_in (x4 + 2) L ∧ vp_in (x4 + 3) L ∧ vp_in (x4 + 4) L ∧ vp_in (x4 + 5) L) (hl : lv_has ls 8 [(4, .int x4), (0, .ref b), (1, .ref x), (2, .ref q), (3, .ref o)])
    (kk : ∀ (ρ2 : Rho) (z2 : Nat) (H2 : Heap) (locs2 : List Loc) (ls2 : Array Slot), Rel ρ2 x q o → LSt G s ρ2 z2 H2 locs2 → lv_has ls2 8 [(4, .int x4), (0, .ref b), (1, .ref x), (2, .ref q), (3, .ref o)] → W p l e room_1 s m #[Value.ref b] below meth c H2 locs2 (cells + 1) (slots + 8) Q (F0 m 1558 ls2 [])) : W p l e room_1 s m #[Value.ref b] below meth c H locs cells slots Q (F0 m 570 ls []) := by
  obtain ⟨hx, hb, hml, hown, hts, hK, hO, hX, hXs, hbl, hfl⟩ := C
  obtain ⟨hi1, hi2, hi3, hi4, hi5⟩ := hi
  have hlt := hLS.lt
  obtain ⟨hR, hS⟩ := hLS
  have hVS := hS.va
  have hbA : ¬ (fun y => s.heap.size ≤ y) b := Nat.not_le.mpr hbl
  have hcc : cells ≤ room_1.cells ∧ slots ≤ room_1.slots := ⟨Nat.le_trans (Nat.le_succ _) hc, Nat.le_trans (Nat.le_add_right _ _) hs⟩
  obtain ⟨ux, r, um, g1, f1, g2, f2, hRel2⟩ := sim ρ z x q o hRel hlt
  refine lv_aload_n hx hb dL_law_570 rfl (lv_at hl 2 rfl) ?_
  refine r_callV (As := []) (rest := []) (st1 := [.int r]) ⟨hx, hb, hml, hown, hts⟩ (kX9_allDue l G ρ x _ f1) (cu_V hts tw_2_113 tw_2_110 tw_2_111 tw_2_112 tw_1_1 hdX9_allDue rfl rfl ⟨Nat.le_of_ble_eq_true rfl, Nat.le_of_ble_eq_true rfl⟩) hK hR rfl g1 rfl hl.1 rfl (Nat.le_of_ble_eq_true rfl) dL_law_571 hcc rfl ?_
  refine lv_aload_n hx hb dL_law_574 rfl (lv_at hl 3 rfl) ?_
  refine r_callV (As := []) (rest := [.int r]) (st1 := [.int r, .int r]) ⟨hx, hb, hml, hown, hts⟩ (kX10_allDue l G ρ q _ f2) (cu_V hts tw_5_74 tw_5_71 tw_5_72 tw_5_73 tw_1_4 hdX10_allDue rfl rfl ⟨Nat.le_of_ble_eq_true rfl, Nat.le_of_ble_eq_true rfl⟩) hK hR rfl g2 rfl hl.1 rfl (Nat.le_of_ble_eq_true rfl) dL_law_575 hcc rfl ?_
  refine lv_icmp_eq (tgt := 1558) hx hb dL_law_578 (by decide) (fun _ => ?_) (fun c9 => absurd rfl c9)
  refine W.widen (k := cells + 1) (n := slots + 8) (by omega) (by omega) ?_
  exact kk _ _ _ _ _ hRel2 ⟨hR, hS⟩ (lv_sub hl [0, 1, 2, 3, 4] rfl)
set_option maxHeartbeats 4000000 in
set_option maxRecDepth 100000 in
theorem lc_stop (C : LC p l s m c b L xs G) (sim : Sim_stop Rel) (hRel : Rel ρ x q o) (hLS : LSt G s ρ z H locs) (hc : cells + 1 ≤ 601024) (hs : slots + 8 ≤ 7293033) (hi : vp_in (x4 + 1) L ∧ vp_in (x4 + 2) L ∧ vp_in (x4 + 3) L ∧ vp_in (x4 + 4) L ∧ vp_in (x4 + 5) L) (hl : lv_has ls 8 [(4, .int x4), (0, .ref b), (1, .ref x), (2, .ref q), (3, .ref o)])
    (kk : ∀ (ρ2 : Rho) (z2 : Nat) (H2 : Heap) (locs2 : List Loc) (ls2 : Array Slot), Rel ρ2 x q o → LSt G s ρ2 z2 H2 locs2 → lv_has ls2 8 [(4, .int x4), (0, .ref b), (1, .ref x), (2, .ref q), (3, .ref o)] → W p l e room_1 s m #[Value.ref b] below meth c H2 locs2 (cells + 1) (slots + 8) Q (F0 m 1558 ls2 [])) : W p l e room_1 s m #[Value.ref b] below meth c H locs cells slots Q (F0 m 583 ls []) := by
  obtain ⟨hx, hb, hml, hown, hts, hK, hO, hX, hXs, hbl, hfl⟩ := C
  obtain ⟨hi1, hi2, hi3, hi4, hi5⟩ := hi
  have hlt := hLS.lt
  obtain ⟨hR, hS⟩ := hLS
  have hVS := hS.va
  have hbA : ¬ (fun y => s.heap.size ≤ y) b := Nat.not_le.mpr hbl
  have hcc : cells ≤ room_1.cells ∧ slots ≤ room_1.slots := ⟨Nat.le_trans (Nat.le_succ _) hc, Nat.le_trans (Nat.le_add_right _ _) hs⟩
  obtain ⟨a1, ha1⟩ : ∃ a, xs (x4 + 1).toNatClampNeg = a := ⟨_, rfl⟩
  obtain ⟨ux, r, ρ1, um, ρ2, g1, f1, g2, f2, hRel2⟩ := sim ρ z x q o a1 hRel hlt
  refine lv_aload_n hx hb dL_law_583 rfl (lv_at hl 2 rfl) ?_
  refine lv_aload_n hx hb dL_law_584 rfl (lv_at hl 1 rfl) ?_
  refine lv_iload hx hb dL_law_585 (lv_at hl 0 rfl) ?_
  refine lv_iconst (v := 1) hx hb dL_law_587 (by decide) ?_
  refine lv_iadd hx hb dL_law_588 ?_
  refine s_ld hx hb hXs hbl hbA hVS hi1 (ha1) dL_law_589 ?_
  refine aw_callV (As := [.int a1]) (rest := []) (st1 := [.int r]) ⟨hx, hb, hml, hown, hts⟩ (kX9_stop l G ρ x a1 _ _ f1) (cu_V hts tw_2_118 tw_2_115 tw_2_116 tw_2_117 tw_1_1 hdX9_stop rfl rfl ⟨Nat.le_of_ble_eq_true rfl, Nat.le_of_ble_eq_true rfl⟩) hK hR hS rfl g1 rfl hl.1 rfl (Nat.le_of_ble_eq_true rfl) dL_law_590 hcc rfl (fun H locs hR hS => ?_)
  have hVS := hS.va
  refine lv_aload_n hx hb dL_law_593 rfl (lv_at hl 3 rfl) ?_
  refine lv_aload_n hx hb dL_law_594 rfl (lv_at hl 1 rfl) ?_
  refine lv_iload hx hb dL_law_595 (lv_at hl 0 rfl) ?_
  refine lv_iconst (v := 1) hx hb dL_law_597 (by decide) ?_
  refine lv_iadd hx hb dL_law_598 ?_
  refine s_ld hx hb hXs hbl hbA hVS hi1 (ha1) dL_law_599 ?_
  refine aw_callV (As := [.int a1]) (rest := [.int r]) (st1 := [.int r, .int r]) ⟨hx, hb, hml, hown, hts⟩ (kX10_stop l G ρ1 q a1 _ _ f2) (cu_V hts tw_5_78 tw_5_75 tw_5_76 tw_5_77 tw_1_4 hdX10_stop rfl rfl ⟨Nat.le_of_ble_eq_true rfl, Nat.le_of_ble_eq_true rfl⟩) hK hR hS rfl g2 rfl hl.1 rfl (Nat.le_of_ble_eq_true rfl) dL_law_600 hcc rfl (fun H locs hR hS => ?_)
  refine lv_icmp_eq (tgt := 1558) hx hb dL_law_603 (by decide) (fun _ => ?_) (fun c9 => absurd rfl c9)
  refine W.widen (k := cells + 1) (n := slots + 8) (by omega) (by omega) ?_
  exact kk _ _ _ _ _ hRel2 ⟨hR, hS⟩ (lv_sub hl [0, 1, 2, 3, 4] rfl)
set_option maxHeartbeats 4000000 in
set_option maxRecDepth 100000 in
theorem lc_dark (C : LC p l s m c b L xs G) (sim : Sim_dark Rel) (hRel : Rel ρ x q o) (hLS : LSt G s ρ z H locs) (hc : cells + 1 ≤ 601024) (hs : slots + 8 ≤ 7293033) (hi : vp_in (x4 + 1) L ∧ vp_in (x4 + 2) L ∧ vp_in (x4 + 3) L ∧ vp_in (x4 + 4) L ∧ vp_in (x4 + 5) L) (hl : lv_has ls 8 [(4, .int x4), (0, .ref b), (1, .ref x), (2, .ref q), (3, .ref o)])
    (kk : ∀ (ρ2 : Rho) (z2 : Nat) (H2 : Heap) (locs2 : List Loc) (ls2 : Array Slot), Rel ρ2 x q o → LSt G s ρ2 z2 H2 locs2 → lv_has ls2 8 [(4, .int x4), (0, .ref b), (1, .ref x), (2, .ref q), (3, .ref o)] → W p l e room_1 s m #[Value.ref b] below meth c H2 locs2 (cells + 1) (slots + 8) Q (F0 m 1558 ls2 [])) : W p l e room_1 s m #[Value.ref b] below meth c H locs cells slots Q (F0 m 608 ls []) := by
  obtain ⟨hx, hb, hml, hown, hts, hK, hO, hX, hXs, hbl, hfl⟩ := C
  obtain ⟨hi1, hi2, hi3, hi4, hi5⟩ := hi
  have hlt := hLS.lt
  obtain ⟨hR, hS⟩ := hLS
  have hVS := hS.va
  have hbA : ¬ (fun y => s.heap.size ≤ y) b := Nat.not_le.mpr hbl
  have hcc : cells ≤ room_1.cells ∧ slots ≤ room_1.slots := ⟨Nat.le_trans (Nat.le_succ _) hc, Nat.le_trans (Nat.le_add_right _ _) hs⟩
  obtain ⟨ux, r, um, g1, f1, g2, f2, hRel2⟩ := sim ρ z x q o hRel hlt
  refine lv_aload_n hx hb dL_law_608 rfl (lv_at hl 2 rfl) ?_
  refine r_callV (As := []) (rest := []) (st1 := [.int r]) ⟨hx, hb, hml, hown, hts⟩ (kX9_dark l G ρ x _ f1) (cu_V hts tw_2_139 tw_2_136 tw_2_137 tw_2_138 tw_1_1 hdX9_dark rfl rfl ⟨Nat.le_of_ble_eq_true rfl, Nat.le_of_ble_eq_true rfl⟩) hK hR rfl g1 rfl hl.1 rfl (Nat.le_of_ble_eq_true rfl) dL_law_609 hcc rfl ?_
  refine lv_aload_n hx hb dL_law_612 rfl (lv_at hl 3 rfl) ?_
  refine r_callV (As := []) (rest := [.int r]) (st1 := [.int r, .int r]) ⟨hx, hb, hml, hown, hts⟩ (kX10_dark l G ρ q _ f2) (cu_V hts tw_5_92 tw_5_89 tw_5_90 tw_5_91 tw_1_4 hdX10_dark rfl rfl ⟨Nat.le_of_ble_eq_true rfl, Nat.le_of_ble_eq_true rfl⟩) hK hR rfl g2 rfl hl.1 rfl (Nat.le_of_ble_eq_true rfl) dL_law_613 hcc rfl ?_
  refine lv_icmp_eq (tgt := 1558) hx hb dL_law_616 (by decide) (fun _ => ?_) (fun c9 => absurd rfl c9)
  refine W.widen (k := cells + 1) (n := slots + 8) (by omega) (by omega) ?_
  exact kk _ _ _ _ _ hRel2 ⟨hR, hS⟩ (lv_sub hl [0, 1, 2, 3, 4] rfl)
set_option maxHeartbeats 4000000 in
set_option maxRecDepth 100000 in
theorem lc_darkest (C : LC p l s m c b L xs G) (sim : Sim_darkest Rel) (hRel : Rel ρ x q o) (hLS : LSt G s ρ z H locs) (hc : cells + 1 ≤ 601024) (hs : slots + 8 ≤ 7293033) (hi : vp_in (x4 + 1) L ∧ vp_in (x4 + 2) L ∧ vp_in (x4 + 3) L ∧ vp_in (x4 + 4) L ∧ vp_in (x4 + 5) L) (hl : lv_has ls 8 [(4, .int x4), (0, .ref b), (1, .ref x), (2, .ref q), (3, .ref o)])
    (kk : ∀ (ρ2 : Rho) (z2 : Nat) (H2 : Heap) (locs2 : List Loc) (ls2 : Array Slot), Rel ρ2 x q o → LSt G s ρ2 z2 H2 locs2 → lv_has ls2 8 [(4, .int x4), (0, .ref b), (1, .ref x), (2, .ref q), (3, .ref o)] → W p l e room_1 s m #[Value.ref b] below meth c H2 locs2 (cells + 1) (slots + 8) Q (F0 m 1558 ls2 [])) : W p l e room_1 s m #[Value.ref b] below meth c H locs cells slots Q (F0 m 621 ls []) := by
  obtain ⟨hx, hb, hml, hown, hts, hK, hO, hX, hXs, hbl, hfl⟩ := C
  obtain ⟨hi1, hi2, hi3, hi4, hi5⟩ := hi
  have hlt := hLS.lt
  obtain ⟨hR, hS⟩ := hLS
  have hVS := hS.va
  have hbA : ¬ (fun y => s.heap.size ≤ y) b := Nat.not_le.mpr hbl
  have hcc : cells ≤ room_1.cells ∧ slots ≤ room_1.slots := ⟨Nat.le_trans (Nat.le_succ _) hc, Nat.le_trans (Nat.le_add_right _ _) hs⟩
  obtain ⟨ux, r, um, g1, f1, g2, f2, hRel2⟩ := sim ρ z x q o hRel hlt
  refine lv_aload_n hx hb dL_law_621 rfl (lv_at hl 2 rfl) ?_
  refine r_callV (As := []) (rest := []) (st1 := [.int r]) ⟨hx, hb, hml, hown, hts⟩ (kX9_darkest l G ρ x _ f1) (cu_V hts tw_2_146 tw_2_143 tw_2_144 tw_2_145 tw_1_1 hdX9_darkest rfl rfl ⟨Nat.le_of_ble_eq_true rfl, Nat.le_of_ble_eq_true rfl⟩) hK hR rfl g1 rfl hl.1 rfl (Nat.le_of_ble_eq_true rfl) dL_law_622 hcc rfl ?_
  refine lv_aload_n hx hb dL_law_625 rfl (lv_at hl 3 rfl) ?_
  refine r_callV (As := []) (rest := [.int r]) (st1 := [.int r, .int r]) ⟨hx, hb, hml, hown, hts⟩ (kX10_darkest l G ρ q _ f2) (cu_V hts tw_5_96 tw_5_93 tw_5_94 tw_5_95 tw_1_4 hdX10_darkest rfl rfl ⟨Nat.le_of_ble_eq_true rfl, Nat.le_of_ble_eq_true rfl⟩) hK hR rfl g2 rfl hl.1 rfl (Nat.le_of_ble_eq_true rfl) dL_law_626 hcc rfl ?_
  refine lv_icmp_eq (tgt := 1558) hx hb dL_law_629 (by decide) (fun _ => ?_) (fun c9 => absurd rfl c9)
  refine W.widen (k := cells + 1) (n := slots + 8) (by omega) (by omega) ?_
  exact kk _ _ _ _ _ hRel2 ⟨hR, hS⟩ (lv_sub hl [0, 1, 2, 3, 4] rfl)
set_option maxHeartbeats 4000000 in
set_option maxRecDepth 100000 in
theorem lc_bright (C : LC p l s m c b L xs G) (sim : Sim_bright Rel) (hRel : Rel ρ x q o) (hLS : LSt G s ρ z H locs) (hc : cells + 1 ≤ 601024) (hs : slots + 8 ≤ 7293033) (hi : vp_in (x4 + 1) L ∧ vp_in (x4 + 2) L ∧ vp_in (x4 + 3) L ∧ vp_in (x4 + 4) L ∧ vp_in (x4 + 5) L) (hl : lv_has ls 8 [(4, .int x4), (0, .ref b), (1, .ref x), (2, .ref q), (3, .ref o)])
    (kk : ∀ (ρ2 : Rho) (z2 : Nat) (H2 : Heap) (locs2 : List Loc) (ls2 : Array Slot), Rel ρ2 x q o → LSt G s ρ2 z2 H2 locs2 → lv_has ls2 8 [(4, .int x4), (0, .ref b), (1, .ref x), (2, .ref q), (3, .ref o)] → W p l e room_1 s m #[Value.ref b] below meth c H2 locs2 (cells + 1) (slots + 8) Q (F0 m 1558 ls2 [])) : W p l e room_1 s m #[Value.ref b] below meth c H locs cells slots Q (F0 m 634 ls []) := by
  obtain ⟨hx, hb, hml, hown, hts, hK, hO, hX, hXs, hbl, hfl⟩ := C
  obtain ⟨hi1, hi2, hi3, hi4, hi5⟩ := hi
  have hlt := hLS.lt
  obtain ⟨hR, hS⟩ := hLS
  have hVS := hS.va
  have hbA : ¬ (fun y => s.heap.size ≤ y) b := Nat.not_le.mpr hbl
  have hcc : cells ≤ room_1.cells ∧ slots ≤ room_1.slots := ⟨Nat.le_trans (Nat.le_succ _) hc, Nat.le_trans (Nat.le_add_right _ _) hs⟩
  obtain ⟨a1, ha1⟩ : ∃ a, xs (x4 + 1).toNatClampNeg = a := ⟨_, rfl⟩
  obtain ⟨ux, r, um, g1, f1, g2, f2, hRel2⟩ := sim ρ z x q o a1 hRel hlt
  refine lv_aload_n hx hb dL_law_634 rfl (lv_at hl 2 rfl) ?_
  refine lv_aload_n hx hb dL_law_635 rfl (lv_at hl 1 rfl) ?_
  refine lv_iload hx hb dL_law_636 (lv_at hl 0 rfl) ?_
  refine lv_iconst (v := 1) hx hb dL_law_638 (by decide) ?_
  refine lv_iadd hx hb dL_law_639 ?_
  refine s_ld hx hb hXs hbl hbA hVS hi1 (ha1) dL_law_640 ?_
  refine r_callV (As := [.int a1]) (rest := []) (st1 := [.int r]) ⟨hx, hb, hml, hown, hts⟩ (kX9_bright l G ρ x a1 _ f1) (cu_V hts tw_2_157 tw_2_154 tw_2_155 tw_2_156 tw_1_1 hdX9_bright rfl rfl ⟨Nat.le_of_ble_eq_true rfl, Nat.le_of_ble_eq_true rfl⟩) hK hR rfl g1 rfl hl.1 rfl (Nat.le_of_ble_eq_true rfl) dL_law_641 hcc rfl ?_
  refine lv_aload_n hx hb dL_law_644 rfl (lv_at hl 3 rfl) ?_
  refine lv_aload_n hx hb dL_law_645 rfl (lv_at hl 1 rfl) ?_
  refine lv_iload hx hb dL_law_646 (lv_at hl 0 rfl) ?_
  refine lv_iconst (v := 1) hx hb dL_law_648 (by decide) ?_
  refine lv_iadd hx hb dL_law_649 ?_
  refine s_ld hx hb hXs hbl hbA hVS hi1 (ha1) dL_law_650 ?_
  refine r_callV (As := [.int a1]) (rest := [.int r]) (st1 := [.int r, .int r]) ⟨hx, hb, hml, hown, hts⟩ (kX10_bright l G ρ q a1 _ f2) (cu_V hts tw_5_103 tw_5_100 tw_5_101 tw_5_102 tw_1_4 hdX10_bright rfl rfl ⟨Nat.le_of_ble_eq_true rfl, Nat.le_of_ble_eq_true rfl⟩) hK hR rfl g2 rfl hl.1 rfl (Nat.le_of_ble_eq_true rfl) dL_law_651 hcc rfl ?_
  refine lv_icmp_eq (tgt := 1558) hx hb dL_law_654 (by decide) (fun _ => ?_) (fun c9 => absurd rfl c9)
  refine W.widen (k := cells + 1) (n := slots + 8) (by omega) (by omega) ?_
  exact kk _ _ _ _ _ hRel2 ⟨hR, hS⟩ (lv_sub hl [0, 1, 2, 3, 4] rfl)
set_option maxHeartbeats 4000000 in
set_option maxRecDepth 100000 in
theorem lc_mirrors (C : LC p l s m c b L xs G) (sim : Sim_mirrors Rel) (hRel : Rel ρ x q o) (hLS : LSt G s ρ z H locs) (hc : cells + 1 ≤ 601024) (hs : slots + 8 ≤ 7293033) (hi : vp_in (x4 + 1) L ∧ vp_in (x4 + 2) L ∧ vp_in (x4 + 3) L ∧ vp_in (x4 + 4) L ∧ vp_in (x4 + 5) L) (hl : lv_has ls 8 [(4, .int x4), (0, .ref b), (1, .ref x), (2, .ref q), (3, .ref o)])
    (kk : ∀ (ρ2 : Rho) (z2 : Nat) (H2 : Heap) (locs2 : List Loc) (ls2 : Array Slot), Rel ρ2 x q o → LSt G s ρ2 z2 H2 locs2 → lv_has ls2 8 [(4, .int x4), (0, .ref b), (1, .ref x), (2, .ref q), (3, .ref o)] → W p l e room_1 s m #[Value.ref b] below meth c H2 locs2 (cells + 1) (slots + 8) Q (F0 m 1558 ls2 [])) : W p l e room_1 s m #[Value.ref b] below meth c H locs cells slots Q (F0 m 659 ls []) := by
  obtain ⟨hx, hb, hml, hown, hts, hK, hO, hX, hXs, hbl, hfl⟩ := C
  obtain ⟨hi1, hi2, hi3, hi4, hi5⟩ := hi
  have hlt := hLS.lt
  obtain ⟨hR, hS⟩ := hLS
  have hVS := hS.va
  have hbA : ¬ (fun y => s.heap.size ≤ y) b := Nat.not_le.mpr hbl
  have hcc : cells ≤ room_1.cells ∧ slots ≤ room_1.slots := ⟨Nat.le_trans (Nat.le_succ _) hc, Nat.le_trans (Nat.le_add_right _ _) hs⟩
  obtain ⟨ux, r, um, g1, f1, g2, f2, hRel2⟩ := sim ρ z x q o hRel hlt
  refine lv_aload_n hx hb dL_law_659 rfl (lv_at hl 2 rfl) ?_
  refine r_callV (As := []) (rest := []) (st1 := [.int r]) ⟨hx, hb, hml, hown, hts⟩ (kX9_mirrors l G ρ x _ f1) (cu_V hts tw_2_168 tw_2_165 tw_2_166 tw_2_167 tw_1_1 hdX9_mirrors rfl rfl ⟨Nat.le_of_ble_eq_true rfl, Nat.le_of_ble_eq_true rfl⟩) hK hR rfl g1 rfl hl.1 rfl (Nat.le_of_ble_eq_true rfl) dL_law_660 hcc rfl ?_
  refine lv_aload_n hx hb dL_law_663 rfl (lv_at hl 3 rfl) ?_
  refine r_callV (As := []) (rest := [.int r]) (st1 := [.int r, .int r]) ⟨hx, hb, hml, hown, hts⟩ (kX10_mirrors l G ρ q _ f2) (cu_V hts tw_5_111 tw_5_108 tw_5_109 tw_5_110 tw_1_4 hdX10_mirrors rfl rfl ⟨Nat.le_of_ble_eq_true rfl, Nat.le_of_ble_eq_true rfl⟩) hK hR rfl g2 rfl hl.1 rfl (Nat.le_of_ble_eq_true rfl) dL_law_664 hcc rfl ?_
  refine lv_icmp_eq (tgt := 1558) hx hb dL_law_667 (by decide) (fun _ => ?_) (fun c9 => absurd rfl c9)
  refine W.widen (k := cells + 1) (n := slots + 8) (by omega) (by omega) ?_
  exact kk _ _ _ _ _ hRel2 ⟨hR, hS⟩ (lv_sub hl [0, 1, 2, 3, 4] rfl)
set_option maxHeartbeats 4000000 in
set_option maxRecDepth 100000 in
theorem lc_mean (C : LC p l s m c b L xs G) (sim : Sim_mean Rel) (hRel : Rel ρ x q o) (hLS : LSt G s ρ z H locs) (hc : cells + 1 ≤ 601024) (hs : slots + 8 ≤ 7293033) (hi : vp_in (x4 + 1) L ∧ vp_in (x4 + 2) L ∧ vp_in (x4 + 3) L ∧ vp_in (x4 + 4) L ∧ vp_in (x4 + 5) L) (hl : lv_has ls 8 [(4, .int x4), (0, .ref b), (1, .ref x), (2, .ref q), (3, .ref o)])
    (kk : ∀ (ρ2 : Rho) (z2 : Nat) (H2 : Heap) (locs2 : List Loc) (ls2 : Array Slot), Rel ρ2 x q o → LSt G s ρ2 z2 H2 locs2 → lv_has ls2 8 [(4, .int x4), (0, .ref b), (1, .ref x), (2, .ref q), (3, .ref o)] → W p l e room_1 s m #[Value.ref b] below meth c H2 locs2 (cells + 1) (slots + 8) Q (F0 m 1558 ls2 [])) : W p l e room_1 s m #[Value.ref b] below meth c H locs cells slots Q (F0 m 672 ls []) := by
  obtain ⟨hx, hb, hml, hown, hts, hK, hO, hX, hXs, hbl, hfl⟩ := C
  obtain ⟨hi1, hi2, hi3, hi4, hi5⟩ := hi
  have hlt := hLS.lt
  obtain ⟨hR, hS⟩ := hLS
  have hVS := hS.va
  have hbA : ¬ (fun y => s.heap.size ≤ y) b := Nat.not_le.mpr hbl
  have hcc : cells ≤ room_1.cells ∧ slots ≤ room_1.slots := ⟨Nat.le_trans (Nat.le_succ _) hc, Nat.le_trans (Nat.le_add_right _ _) hs⟩
  obtain ⟨a1, ha1⟩ : ∃ a, xs (x4 + 1).toNatClampNeg = a := ⟨_, rfl⟩
  obtain ⟨a2, ha2⟩ : ∃ a, xs (x4 + 2).toNatClampNeg = a := ⟨_, rfl⟩
  obtain ⟨ux, r, um, g1, f1, g2, f2, hRel2⟩ := sim ρ z x q o a1 a2 hRel hlt
  refine lv_aload_n hx hb dL_law_672 rfl (lv_at hl 2 rfl) ?_
  refine lv_aload_n hx hb dL_law_673 rfl (lv_at hl 1 rfl) ?_
  refine lv_iload hx hb dL_law_674 (lv_at hl 0 rfl) ?_
  refine lv_iconst (v := 1) hx hb dL_law_676 (by decide) ?_
  refine lv_iadd hx hb dL_law_677 ?_
  refine s_ld hx hb hXs hbl hbA hVS hi1 (ha1) dL_law_678 ?_
  refine lv_aload_n hx hb dL_law_679 rfl (lv_at hl 1 rfl) ?_
  refine lv_iload hx hb dL_law_680 (lv_at hl 0 rfl) ?_
  refine lv_iconst (v := 2) hx hb dL_law_682 (by decide) ?_
  refine lv_iadd hx hb dL_law_683 ?_
  refine s_ld hx hb hXs hbl hbA hVS hi2 (ha2) dL_law_684 ?_
  refine r_callV (As := [.int a1, .int a2]) (rest := []) (st1 := [.long r]) ⟨hx, hb, hml, hown, hts⟩ (kX9_mean l G ρ x a1 a2 _ f1) (cu_V hts tw_2_177 tw_2_174 tw_2_175 tw_2_176 tw_1_1 hdX9_mean rfl rfl ⟨Nat.le_of_ble_eq_true rfl, Nat.le_of_ble_eq_true rfl⟩) hK hR rfl g1 rfl hl.1 rfl (Nat.le_of_ble_eq_true rfl) dL_law_685 hcc rfl ?_
  refine lv_aload_n hx hb dL_law_688 rfl (lv_at hl 3 rfl) ?_
  refine lv_aload_n hx hb dL_law_689 rfl (lv_at hl 1 rfl) ?_
  refine lv_iload hx hb dL_law_690 (lv_at hl 0 rfl) ?_
  refine lv_iconst (v := 1) hx hb dL_law_692 (by decide) ?_
  refine lv_iadd hx hb dL_law_693 ?_
  refine s_ld hx hb hXs hbl hbA hVS hi1 (ha1) dL_law_694 ?_
  refine lv_aload_n hx hb dL_law_695 rfl (lv_at hl 1 rfl) ?_
  refine lv_iload hx hb dL_law_696 (lv_at hl 0 rfl) ?_
  refine lv_iconst (v := 2) hx hb dL_law_698 (by decide) ?_
  refine lv_iadd hx hb dL_law_699 ?_
  refine s_ld hx hb hXs hbl hbA hVS hi2 (ha2) dL_law_700 ?_
  refine r_callV (As := [.int a1, .int a2]) (rest := [.long r]) (st1 := [.long r, .long r]) ⟨hx, hb, hml, hown, hts⟩ (kX10_mean l G ρ q a1 a2 _ f2) (cu_V hts tw_5_118 tw_5_115 tw_5_116 tw_5_117 tw_1_4 hdX10_mean rfl rfl ⟨Nat.le_of_ble_eq_true rfl, Nat.le_of_ble_eq_true rfl⟩) hK hR rfl g2 rfl hl.1 rfl (Nat.le_of_ble_eq_true rfl) dL_law_701 hcc rfl ?_
  refine W.lcmp hx hb dL_law_704 ?_
  refine lv_if_eq (tgt := 1558) hx hb dL_law_705 (by decide) (fun _ => ?_) (fun c9 => absurd (lg_cmp_self _) c9)
  refine W.widen (k := cells + 1) (n := slots + 8) (by omega) (by omega) ?_
  exact kk _ _ _ _ _ hRel2 ⟨hR, hS⟩ (lv_sub hl [0, 1, 2, 3, 4] rfl)
set_option maxHeartbeats 4000000 in
set_option maxRecDepth 100000 in
theorem lc_hidden (C : LC p l s m c b L xs G) (sim : Sim_hidden Rel) (hRel : Rel ρ x q o) (hLS : LSt G s ρ z H locs) (hc : cells + 1 ≤ 601024) (hs : slots + 8 ≤ 7293033) (hi : vp_in (x4 + 1) L ∧ vp_in (x4 + 2) L ∧ vp_in (x4 + 3) L ∧ vp_in (x4 + 4) L ∧ vp_in (x4 + 5) L) (hl : lv_has ls 8 [(4, .int x4), (0, .ref b), (1, .ref x), (2, .ref q), (3, .ref o)])
    (kk : ∀ (ρ2 : Rho) (z2 : Nat) (H2 : Heap) (locs2 : List Loc) (ls2 : Array Slot), Rel ρ2 x q o → LSt G s ρ2 z2 H2 locs2 → lv_has ls2 8 [(4, .int x4), (0, .ref b), (1, .ref x), (2, .ref q), (3, .ref o)] → W p l e room_1 s m #[Value.ref b] below meth c H2 locs2 (cells + 1) (slots + 8) Q (F0 m 1558 ls2 [])) : W p l e room_1 s m #[Value.ref b] below meth c H locs cells slots Q (F0 m 710 ls []) := by
  obtain ⟨hx, hb, hml, hown, hts, hK, hO, hX, hXs, hbl, hfl⟩ := C
  obtain ⟨hi1, hi2, hi3, hi4, hi5⟩ := hi
  have hlt := hLS.lt
  obtain ⟨hR, hS⟩ := hLS
  have hVS := hS.va
  have hbA : ¬ (fun y => s.heap.size ≤ y) b := Nat.not_le.mpr hbl
  have hcc : cells ≤ room_1.cells ∧ slots ≤ room_1.slots := ⟨Nat.le_trans (Nat.le_succ _) hc, Nat.le_trans (Nat.le_add_right _ _) hs⟩
  obtain ⟨ux, r, ρ1, um, ρ2, g1, f1, g2, f2, hRel2⟩ := sim ρ z x q o hRel hlt
  refine lv_aload_n hx hb dL_law_710 rfl (lv_at hl 2 rfl) ?_
  refine aw_callV (As := []) (rest := []) (st1 := [.int r]) ⟨hx, hb, hml, hown, hts⟩ (kX9_hidden l G ρ x _ _ f1) (cu_V hts tw_2_192 tw_2_189 tw_2_190 tw_2_191 tw_1_1 hdX9_hidden rfl rfl ⟨Nat.le_of_ble_eq_true rfl, Nat.le_of_ble_eq_true rfl⟩) hK hR hS rfl g1 rfl hl.1 rfl (Nat.le_of_ble_eq_true rfl) dL_law_711 hcc rfl (fun H locs hR hS => ?_)
  have hVS := hS.va
  refine lv_aload_n hx hb dL_law_714 rfl (lv_at hl 3 rfl) ?_
  refine aw_callV (As := []) (rest := [.int r]) (st1 := [.int r, .int r]) ⟨hx, hb, hml, hown, hts⟩ (kX10_hidden l G ρ1 q _ _ f2) (cu_V hts tw_5_130 tw_5_127 tw_5_128 tw_5_129 tw_1_4 hdX10_hidden rfl rfl ⟨Nat.le_of_ble_eq_true rfl, Nat.le_of_ble_eq_true rfl⟩) hK hR hS rfl g2 rfl hl.1 rfl (Nat.le_of_ble_eq_true rfl) dL_law_715 hcc rfl (fun H locs hR hS => ?_)
  refine lv_icmp_eq (tgt := 1558) hx hb dL_law_718 (by decide) (fun _ => ?_) (fun c9 => absurd rfl c9)
  refine W.widen (k := cells + 1) (n := slots + 8) (by omega) (by omega) ?_
  exact kk _ _ _ _ _ hRel2 ⟨hR, hS⟩ (lv_sub hl [0, 1, 2, 3, 4] rfl)
set_option maxHeartbeats 4000000 in
set_option maxRecDepth 100000 in
theorem lc_looks (C : LC p l s m c b L xs G) (sim : Sim_looks Rel) (hRel : Rel ρ x q o) (hLS : LSt G s ρ z H locs) (hc : cells + 1 ≤ 601024) (hs : slots + 8 ≤ 7293033) (hi : vp_in (x4 + 1) L ∧ vp_in (x4 + 2) L ∧ vp_in (x4 + 3) L ∧ vp_in (x4 + 4) L ∧ vp_in (x4 + 5) L) (hl : lv_has ls 8 [(4, .int x4), (0, .ref b), (1, .ref x), (2, .ref q), (3, .ref o)])
    (kk : ∀ (ρ2 : Rho) (z2 : Nat) (H2 : Heap) (locs2 : List Loc) (ls2 : Array Slot), Rel ρ2 x q o → LSt G s ρ2 z2 H2 locs2 → lv_has ls2 8 [(4, .int x4), (0, .ref b), (1, .ref x), (2, .ref q), (3, .ref o)] → W p l e room_1 s m #[Value.ref b] below meth c H2 locs2 (cells + 1) (slots + 8) Q (F0 m 1558 ls2 [])) : W p l e room_1 s m #[Value.ref b] below meth c H locs cells slots Q (F0 m 723 ls []) := by
  obtain ⟨hx, hb, hml, hown, hts, hK, hO, hX, hXs, hbl, hfl⟩ := C
  obtain ⟨hi1, hi2, hi3, hi4, hi5⟩ := hi
  have hlt := hLS.lt
  obtain ⟨hR, hS⟩ := hLS
  have hVS := hS.va
  have hbA : ¬ (fun y => s.heap.size ≤ y) b := Nat.not_le.mpr hbl
  have hcc : cells ≤ room_1.cells ∧ slots ≤ room_1.slots := ⟨Nat.le_trans (Nat.le_succ _) hc, Nat.le_trans (Nat.le_add_right _ _) hs⟩
  have hcc2 : cells + 1 ≤ room_1.cells ∧ slots + 8 ≤ room_1.slots := ⟨hc, hs⟩
  obtain ⟨ux, r, ρ1, z1, um, ρ2, g1, f1, g2, f2, hRel2⟩ := sim ρ z x q o hRel hlt
  refine lv_aload_n hx hb dL_law_723 rfl (lv_at hl 2 rfl) ?_
  refine a_callV (As := []) (rest := []) (st1 := [.int r]) ⟨hx, hb, hml, hown, hts⟩ (kX9_looks l G ρ z x _ _ _ f1) (cu_V hts tw_2_208 tw_2_205 tw_2_206 tw_2_207 tw_1_1 hdX9_looks rfl rfl ⟨Nat.le_of_ble_eq_true rfl, Nat.le_of_ble_eq_true rfl⟩) hK hO hR hS rfl g1 rfl hl.1 rfl (Nat.le_of_ble_eq_true rfl) dL_law_724 ⟨hc, hs⟩ rfl (fun H locs hR hS => ?_)
  have hVS := hS.va
  refine lv_aload_n hx hb dL_law_727 rfl (lv_at hl 3 rfl) ?_
  refine aw_callV (As := []) (rest := [.int r]) (st1 := [.int r, .int r]) ⟨hx, hb, hml, hown, hts⟩ (kX10_looks l G ρ1 q _ _ f2) (cu_V hts tw_5_138 tw_5_135 tw_5_136 tw_5_137 tw_1_4 hdX10_looks rfl rfl ⟨Nat.le_of_ble_eq_true rfl, Nat.le_of_ble_eq_true rfl⟩) hK hR hS rfl g2 rfl hl.1 rfl (Nat.le_of_ble_eq_true rfl) dL_law_728 hcc2 rfl (fun H locs hR hS => ?_)
  refine lv_icmp_eq (tgt := 1558) hx hb dL_law_731 (by decide) (fun _ => ?_) (fun c9 => absurd rfl c9)
  refine W.widen (k := cells + 1) (n := slots + 8) (by omega) (by omega) ?_
  exact kk _ _ _ _ _ hRel2 ⟨hR, hS⟩ (lv_sub hl [0, 1, 2, 3, 4] rfl)
set_option maxHeartbeats 4000000 in
set_option maxRecDepth 100000 in
theorem lc_mostMoving (C : LC p l s m c b L xs G) (sim : Sim_mostMoving Rel) (hRel : Rel ρ x q o) (hLS : LSt G s ρ z H locs) (hc : cells + 1 ≤ 601024) (hs : slots + 8 ≤ 7293033) (hi : vp_in (x4 + 1) L ∧ vp_in (x4 + 2) L ∧ vp_in (x4 + 3) L ∧ vp_in (x4 + 4) L ∧ vp_in (x4 + 5) L) (hl : lv_has ls 8 [(4, .int x4), (0, .ref b), (1, .ref x), (2, .ref q), (3, .ref o)])
    (kk : ∀ (ρ2 : Rho) (z2 : Nat) (H2 : Heap) (locs2 : List Loc) (ls2 : Array Slot), Rel ρ2 x q o → LSt G s ρ2 z2 H2 locs2 → lv_has ls2 8 [(4, .int x4), (0, .ref b), (1, .ref x), (2, .ref q), (3, .ref o)] → W p l e room_1 s m #[Value.ref b] below meth c H2 locs2 (cells + 1) (slots + 8) Q (F0 m 1558 ls2 [])) : W p l e room_1 s m #[Value.ref b] below meth c H locs cells slots Q (F0 m 736 ls []) := by
  obtain ⟨hx, hb, hml, hown, hts, hK, hO, hX, hXs, hbl, hfl⟩ := C
  obtain ⟨hi1, hi2, hi3, hi4, hi5⟩ := hi
  have hlt := hLS.lt
  obtain ⟨hR, hS⟩ := hLS
  have hVS := hS.va
  have hbA : ¬ (fun y => s.heap.size ≤ y) b := Nat.not_le.mpr hbl
  have hcc : cells ≤ room_1.cells ∧ slots ≤ room_1.slots := ⟨Nat.le_trans (Nat.le_succ _) hc, Nat.le_trans (Nat.le_add_right _ _) hs⟩
  obtain ⟨a1, ha1⟩ : ∃ a, xs (x4 + 1).toNatClampNeg = a := ⟨_, rfl⟩
  obtain ⟨ux, r, um, g1, f1, g2, f2, hRel2⟩ := sim ρ z x q o a1 hRel hlt
  refine lv_aload_n hx hb dL_law_736 rfl (lv_at hl 2 rfl) ?_
  refine lv_aload_n hx hb dL_law_737 rfl (lv_at hl 1 rfl) ?_
  refine lv_iload hx hb dL_law_738 (lv_at hl 0 rfl) ?_
  refine lv_iconst (v := 1) hx hb dL_law_740 (by decide) ?_
  refine lv_iadd hx hb dL_law_741 ?_
  refine s_ld hx hb hXs hbl hbA hVS hi1 (ha1) dL_law_742 ?_
  refine r_callV (As := [.int a1]) (rest := []) (st1 := [.int r]) ⟨hx, hb, hml, hown, hts⟩ (kX9_mostMoving l G ρ x a1 _ f1) (cu_V hts tw_2_230 tw_2_227 tw_2_228 tw_2_229 tw_1_1 hdX9_mostMoving rfl rfl ⟨Nat.le_of_ble_eq_true rfl, Nat.le_of_ble_eq_true rfl⟩) hK hR rfl g1 rfl hl.1 rfl (Nat.le_of_ble_eq_true rfl) dL_law_743 hcc rfl ?_
  refine lv_aload_n hx hb dL_law_746 rfl (lv_at hl 3 rfl) ?_
  refine lv_aload_n hx hb dL_law_747 rfl (lv_at hl 1 rfl) ?_
  refine lv_iload hx hb dL_law_748 (lv_at hl 0 rfl) ?_
  refine lv_iconst (v := 1) hx hb dL_law_750 (by decide) ?_
  refine lv_iadd hx hb dL_law_751 ?_
  refine s_ld hx hb hXs hbl hbA hVS hi1 (ha1) dL_law_752 ?_
  refine r_callV (As := [.int a1]) (rest := [.int r]) (st1 := [.int r, .int r]) ⟨hx, hb, hml, hown, hts⟩ (kX10_mostMoving l G ρ q a1 _ f2) (cu_V hts tw_5_146 tw_5_143 tw_5_144 tw_5_145 tw_1_4 hdX10_mostMoving rfl rfl ⟨Nat.le_of_ble_eq_true rfl, Nat.le_of_ble_eq_true rfl⟩) hK hR rfl g2 rfl hl.1 rfl (Nat.le_of_ble_eq_true rfl) dL_law_753 hcc rfl ?_
  refine lv_icmp_eq (tgt := 1558) hx hb dL_law_756 (by decide) (fun _ => ?_) (fun c9 => absurd rfl c9)
  refine W.widen (k := cells + 1) (n := slots + 8) (by omega) (by omega) ?_
  exact kk _ _ _ _ _ hRel2 ⟨hR, hS⟩ (lv_sub hl [0, 1, 2, 3, 4] rfl)
set_option maxHeartbeats 4000000 in
set_option maxRecDepth 100000 in
theorem lc_taken (C : LC p l s m c b L xs G) (sim : Sim_taken Rel) (hRel : Rel ρ x q o) (hLS : LSt G s ρ z H locs) (hc : cells + 1 ≤ 601024) (hs : slots + 8 ≤ 7293033) (hi : vp_in (x4 + 1) L ∧ vp_in (x4 + 2) L ∧ vp_in (x4 + 3) L ∧ vp_in (x4 + 4) L ∧ vp_in (x4 + 5) L) (hl : lv_has ls 8 [(4, .int x4), (0, .ref b), (1, .ref x), (2, .ref q), (3, .ref o)])
    (kk : ∀ (ρ2 : Rho) (z2 : Nat) (H2 : Heap) (locs2 : List Loc) (ls2 : Array Slot), Rel ρ2 x q o → LSt G s ρ2 z2 H2 locs2 → lv_has ls2 8 [(4, .int x4), (0, .ref b), (1, .ref x), (2, .ref q), (3, .ref o)] → W p l e room_1 s m #[Value.ref b] below meth c H2 locs2 (cells + 1) (slots + 8) Q (F0 m 1558 ls2 [])) : W p l e room_1 s m #[Value.ref b] below meth c H locs cells slots Q (F0 m 761 ls []) := by
  obtain ⟨hx, hb, hml, hown, hts, hK, hO, hX, hXs, hbl, hfl⟩ := C
  obtain ⟨hi1, hi2, hi3, hi4, hi5⟩ := hi
  have hlt := hLS.lt
  obtain ⟨hR, hS⟩ := hLS
  have hVS := hS.va
  have hbA : ¬ (fun y => s.heap.size ≤ y) b := Nat.not_le.mpr hbl
  have hcc : cells ≤ room_1.cells ∧ slots ≤ room_1.slots := ⟨Nat.le_trans (Nat.le_succ _) hc, Nat.le_trans (Nat.le_add_right _ _) hs⟩
  obtain ⟨a1, ha1⟩ : ∃ a, xs (x4 + 1).toNatClampNeg = a := ⟨_, rfl⟩
  obtain ⟨ux, r, um, g1, f1, g2, f2, hRel2⟩ := sim ρ z x q o a1 hRel hlt
  refine lv_aload_n hx hb dL_law_761 rfl (lv_at hl 2 rfl) ?_
  refine lv_aload_n hx hb dL_law_762 rfl (lv_at hl 1 rfl) ?_
  refine lv_iload hx hb dL_law_763 (lv_at hl 0 rfl) ?_
  refine lv_iconst (v := 1) hx hb dL_law_765 (by decide) ?_
  refine lv_iadd hx hb dL_law_766 ?_
  refine s_ld hx hb hXs hbl hbA hVS hi1 (ha1) dL_law_767 ?_
  refine r_callV (As := [.int a1]) (rest := []) (st1 := [.int r]) ⟨hx, hb, hml, hown, hts⟩ (kX9_taken l G ρ x a1 _ f1) (cu_V hts tw_3_2 tw_2_239 tw_3_0 tw_3_1 tw_1_1 hdX9_taken rfl rfl ⟨Nat.le_of_ble_eq_true rfl, Nat.le_of_ble_eq_true rfl⟩) hK hR rfl g1 rfl hl.1 rfl (Nat.le_of_ble_eq_true rfl) dL_law_768 hcc rfl ?_
  refine lv_aload_n hx hb dL_law_771 rfl (lv_at hl 3 rfl) ?_
  refine lv_aload_n hx hb dL_law_772 rfl (lv_at hl 1 rfl) ?_
  refine lv_iload hx hb dL_law_773 (lv_at hl 0 rfl) ?_
  refine lv_iconst (v := 1) hx hb dL_law_775 (by decide) ?_
  refine lv_iadd hx hb dL_law_776 ?_
  refine s_ld hx hb hXs hbl hbA hVS hi1 (ha1) dL_law_777 ?_
  refine r_callV (As := [.int a1]) (rest := [.int r]) (st1 := [.int r, .int r]) ⟨hx, hb, hml, hown, hts⟩ (kX10_taken l G ρ q a1 _ f2) (cu_V hts tw_5_153 tw_5_150 tw_5_151 tw_5_152 tw_1_4 hdX10_taken rfl rfl ⟨Nat.le_of_ble_eq_true rfl, Nat.le_of_ble_eq_true rfl⟩) hK hR rfl g2 rfl hl.1 rfl (Nat.le_of_ble_eq_true rfl) dL_law_778 hcc rfl ?_
  refine lv_icmp_eq (tgt := 1558) hx hb dL_law_781 (by decide) (fun _ => ?_) (fun c9 => absurd rfl c9)
  refine W.widen (k := cells + 1) (n := slots + 8) (by omega) (by omega) ?_
  exact kk _ _ _ _ _ hRel2 ⟨hR, hS⟩ (lv_sub hl [0, 1, 2, 3, 4] rfl)
set_option maxHeartbeats 4000000 in
set_option maxRecDepth 100000 in
theorem lc_bestHour (C : LC p l s m c b L xs G) (sim : Sim_bestHour Rel) (hRel : Rel ρ x q o) (hLS : LSt G s ρ z H locs) (hc : cells + 1 ≤ 601024) (hs : slots + 8 ≤ 7293033) (hi : vp_in (x4 + 1) L ∧ vp_in (x4 + 2) L ∧ vp_in (x4 + 3) L ∧ vp_in (x4 + 4) L ∧ vp_in (x4 + 5) L) (hl : lv_has ls 8 [(4, .int x4), (0, .ref b), (1, .ref x), (2, .ref q), (3, .ref o)])
    (kk : ∀ (ρ2 : Rho) (z2 : Nat) (H2 : Heap) (locs2 : List Loc) (ls2 : Array Slot), Rel ρ2 x q o → LSt G s ρ2 z2 H2 locs2 → lv_has ls2 8 [(4, .int x4), (0, .ref b), (1, .ref x), (2, .ref q), (3, .ref o)] → W p l e room_1 s m #[Value.ref b] below meth c H2 locs2 (cells + 1) (slots + 8) Q (F0 m 1558 ls2 [])) : W p l e room_1 s m #[Value.ref b] below meth c H locs cells slots Q (F0 m 786 ls []) := by
  obtain ⟨hx, hb, hml, hown, hts, hK, hO, hX, hXs, hbl, hfl⟩ := C
  obtain ⟨hi1, hi2, hi3, hi4, hi5⟩ := hi
  have hlt := hLS.lt
  obtain ⟨hR, hS⟩ := hLS
  have hVS := hS.va
  have hbA : ¬ (fun y => s.heap.size ≤ y) b := Nat.not_le.mpr hbl
  have hcc : cells ≤ room_1.cells ∧ slots ≤ room_1.slots := ⟨Nat.le_trans (Nat.le_succ _) hc, Nat.le_trans (Nat.le_add_right _ _) hs⟩
  obtain ⟨a1, ha1⟩ : ∃ a, xs (x4 + 1).toNatClampNeg = a := ⟨_, rfl⟩
  obtain ⟨ux, r, um, g1, f1, g2, f2, hRel2⟩ := sim ρ z x q o a1 hRel hlt
  refine lv_aload_n hx hb dL_law_786 rfl (lv_at hl 2 rfl) ?_
  refine lv_aload_n hx hb dL_law_787 rfl (lv_at hl 1 rfl) ?_
  refine lv_iload hx hb dL_law_788 (lv_at hl 0 rfl) ?_
  refine lv_iconst (v := 1) hx hb dL_law_790 (by decide) ?_
  refine lv_iadd hx hb dL_law_791 ?_
  refine s_ld hx hb hXs hbl hbA hVS hi1 (ha1) dL_law_792 ?_
  refine r_callV (As := [.int a1]) (rest := []) (st1 := [.int r]) ⟨hx, hb, hml, hown, hts⟩ (kX9_bestHour l G ρ x a1 _ f1) (cu_V hts tw_3_12 tw_3_9 tw_3_10 tw_3_11 tw_1_1 hdX9_bestHour rfl rfl ⟨Nat.le_of_ble_eq_true rfl, Nat.le_of_ble_eq_true rfl⟩) hK hR rfl g1 rfl hl.1 rfl (Nat.le_of_ble_eq_true rfl) dL_law_793 hcc rfl ?_
  refine lv_aload_n hx hb dL_law_796 rfl (lv_at hl 3 rfl) ?_
  refine lv_aload_n hx hb dL_law_797 rfl (lv_at hl 1 rfl) ?_
  refine lv_iload hx hb dL_law_798 (lv_at hl 0 rfl) ?_
  refine lv_iconst (v := 1) hx hb dL_law_800 (by decide) ?_
  refine lv_iadd hx hb dL_law_801 ?_
  refine s_ld hx hb hXs hbl hbA hVS hi1 (ha1) dL_law_802 ?_
  refine r_callV (As := [.int a1]) (rest := [.int r]) (st1 := [.int r, .int r]) ⟨hx, hb, hml, hown, hts⟩ (kX10_bestHour l G ρ q a1 _ f2) (cu_V hts tw_5_157 tw_5_154 tw_5_155 tw_5_156 tw_1_4 hdX10_bestHour rfl rfl ⟨Nat.le_of_ble_eq_true rfl, Nat.le_of_ble_eq_true rfl⟩) hK hR rfl g2 rfl hl.1 rfl (Nat.le_of_ble_eq_true rfl) dL_law_803 hcc rfl ?_
  refine lv_icmp_eq (tgt := 1558) hx hb dL_law_806 (by decide) (fun _ => ?_) (fun c9 => absurd rfl c9)
  refine W.widen (k := cells + 1) (n := slots + 8) (by omega) (by omega) ?_
  exact kk _ _ _ _ _ hRel2 ⟨hR, hS⟩ (lv_sub hl [0, 1, 2, 3, 4] rfl)
set_option maxHeartbeats 4000000 in
set_option maxRecDepth 100000 in
theorem lc_game (C : LC p l s m c b L xs G) (sim : Sim_game Rel) (hRel : Rel ρ x q o) (hLS : LSt G s ρ z H locs) (hc : cells + 1 ≤ 601024) (hs : slots + 8 ≤ 7293033) (hi : vp_in (x4 + 1) L ∧ vp_in (x4 + 2) L ∧ vp_in (x4 + 3) L ∧ vp_in (x4 + 4) L ∧ vp_in (x4 + 5) L) (hl : lv_has ls 8 [(4, .int x4), (0, .ref b), (1, .ref x), (2, .ref q), (3, .ref o)])
    (kk : ∀ (ρ2 : Rho) (z2 : Nat) (H2 : Heap) (locs2 : List Loc) (ls2 : Array Slot), Rel ρ2 x q o → LSt G s ρ2 z2 H2 locs2 → lv_has ls2 8 [(4, .int x4), (0, .ref b), (1, .ref x), (2, .ref q), (3, .ref o)] → W p l e room_1 s m #[Value.ref b] below meth c H2 locs2 (cells + 1) (slots + 8) Q (F0 m 1558 ls2 [])) : W p l e room_1 s m #[Value.ref b] below meth c H locs cells slots Q (F0 m 811 ls []) := by
  obtain ⟨hx, hb, hml, hown, hts, hK, hO, hX, hXs, hbl, hfl⟩ := C
  obtain ⟨hi1, hi2, hi3, hi4, hi5⟩ := hi
  have hlt := hLS.lt
  obtain ⟨hR, hS⟩ := hLS
  have hVS := hS.va
  have hbA : ¬ (fun y => s.heap.size ≤ y) b := Nat.not_le.mpr hbl
  have hcc : cells ≤ room_1.cells ∧ slots ≤ room_1.slots := ⟨Nat.le_trans (Nat.le_succ _) hc, Nat.le_trans (Nat.le_add_right _ _) hs⟩
  obtain ⟨a1, ha1⟩ : ∃ a, xs (x4 + 1).toNatClampNeg = a := ⟨_, rfl⟩
  obtain ⟨a2, ha2⟩ : ∃ a, xs (x4 + 2).toNatClampNeg = a := ⟨_, rfl⟩
  obtain ⟨ux, r, um, ρ2, g1, f1, g2, f2, hRel2⟩ := sim ρ z x q o a1 a2 hRel hlt
  refine lv_aload_n hx hb dL_law_811 rfl (lv_at hl 2 rfl) ?_
  refine lv_aload_n hx hb dL_law_812 rfl (lv_at hl 1 rfl) ?_
  refine lv_iload hx hb dL_law_813 (lv_at hl 0 rfl) ?_
  refine lv_iconst (v := 1) hx hb dL_law_815 (by decide) ?_
  refine lv_iadd hx hb dL_law_816 ?_
  refine s_ld hx hb hXs hbl hbA hVS hi1 (ha1) dL_law_817 ?_
  refine lv_aload_n hx hb dL_law_818 rfl (lv_at hl 1 rfl) ?_
  refine lv_iload hx hb dL_law_819 (lv_at hl 0 rfl) ?_
  refine lv_iconst (v := 2) hx hb dL_law_821 (by decide) ?_
  refine lv_iadd hx hb dL_law_822 ?_
  refine s_ld hx hb hXs hbl hbA hVS hi2 (ha2) dL_law_823 ?_
  refine r_callV (As := [.int a1, .int a2]) (rest := []) (st1 := [.int r]) ⟨hx, hb, hml, hown, hts⟩ (kX9_game l G ρ x a1 a2 _ f1) (cu_V hts tw_3_23 tw_3_20 tw_3_21 tw_3_22 tw_1_1 hdX9_game rfl rfl ⟨Nat.le_of_ble_eq_true rfl, Nat.le_of_ble_eq_true rfl⟩) hK hR rfl g1 rfl hl.1 rfl (Nat.le_of_ble_eq_true rfl) dL_law_824 hcc rfl ?_
  refine lv_aload_n hx hb dL_law_827 rfl (lv_at hl 3 rfl) ?_
  refine lv_aload_n hx hb dL_law_828 rfl (lv_at hl 1 rfl) ?_
  refine lv_iload hx hb dL_law_829 (lv_at hl 0 rfl) ?_
  refine lv_iconst (v := 1) hx hb dL_law_831 (by decide) ?_
  refine lv_iadd hx hb dL_law_832 ?_
  refine s_ld hx hb hXs hbl hbA hVS hi1 (ha1) dL_law_833 ?_
  refine lv_aload_n hx hb dL_law_834 rfl (lv_at hl 1 rfl) ?_
  refine lv_iload hx hb dL_law_835 (lv_at hl 0 rfl) ?_
  refine lv_iconst (v := 2) hx hb dL_law_837 (by decide) ?_
  refine lv_iadd hx hb dL_law_838 ?_
  refine s_ld hx hb hXs hbl hbA hVS hi2 (ha2) dL_law_839 ?_
  refine aw_callV (As := [.int a1, .int a2]) (rest := [.int r]) (st1 := [.int r, .int r]) ⟨hx, hb, hml, hown, hts⟩ (kX10_game l G ρ q a1 a2 _ _ f2) (cu_V hts tw_5_164 tw_5_161 tw_5_162 tw_5_163 tw_1_4 hdX10_game rfl rfl ⟨Nat.le_of_ble_eq_true rfl, Nat.le_of_ble_eq_true rfl⟩) hK hR hS rfl g2 rfl hl.1 rfl (Nat.le_of_ble_eq_true rfl) dL_law_840 hcc rfl (fun H locs hR hS => ?_)
  refine lv_icmp_eq (tgt := 1558) hx hb dL_law_843 (by decide) (fun _ => ?_) (fun c9 => absurd rfl c9)
  refine W.widen (k := cells + 1) (n := slots + 8) (by omega) (by omega) ?_
  exact kk _ _ _ _ _ hRel2 ⟨hR, hS⟩ (lv_sub hl [0, 1, 2, 3, 4] rfl)
set_option maxHeartbeats 4000000 in
set_option maxRecDepth 100000 in
theorem lc_suitor (C : LC p l s m c b L xs G) (sim : Sim_suitor Rel) (hRel : Rel ρ x q o) (hLS : LSt G s ρ z H locs) (hc : cells + 1 ≤ 601024) (hs : slots + 8 ≤ 7293033) (hi : vp_in (x4 + 1) L ∧ vp_in (x4 + 2) L ∧ vp_in (x4 + 3) L ∧ vp_in (x4 + 4) L ∧ vp_in (x4 + 5) L) (hl : lv_has ls 8 [(4, .int x4), (0, .ref b), (1, .ref x), (2, .ref q), (3, .ref o)])
    (kk : ∀ (ρ2 : Rho) (z2 : Nat) (H2 : Heap) (locs2 : List Loc) (ls2 : Array Slot), Rel ρ2 x q o → LSt G s ρ2 z2 H2 locs2 → lv_has ls2 8 [(4, .int x4), (0, .ref b), (1, .ref x), (2, .ref q), (3, .ref o)] → W p l e room_1 s m #[Value.ref b] below meth c H2 locs2 (cells + 1) (slots + 8) Q (F0 m 1558 ls2 [])) : W p l e room_1 s m #[Value.ref b] below meth c H locs cells slots Q (F0 m 848 ls []) := by
  obtain ⟨hx, hb, hml, hown, hts, hK, hO, hX, hXs, hbl, hfl⟩ := C
  obtain ⟨hi1, hi2, hi3, hi4, hi5⟩ := hi
  have hlt := hLS.lt
  obtain ⟨hR, hS⟩ := hLS
  have hVS := hS.va
  have hbA : ¬ (fun y => s.heap.size ≤ y) b := Nat.not_le.mpr hbl
  have hcc : cells ≤ room_1.cells ∧ slots ≤ room_1.slots := ⟨Nat.le_trans (Nat.le_succ _) hc, Nat.le_trans (Nat.le_add_right _ _) hs⟩
  obtain ⟨a1, ha1⟩ : ∃ a, xs (x4 + 1).toNatClampNeg = a := ⟨_, rfl⟩
  obtain ⟨ux, r, um, g1, f1, g2, f2, hRel2⟩ := sim ρ z x q o a1 hRel hlt
  refine lv_aload_n hx hb dL_law_848 rfl (lv_at hl 2 rfl) ?_
  refine lv_aload_n hx hb dL_law_849 rfl (lv_at hl 1 rfl) ?_
  refine lv_iload hx hb dL_law_850 (lv_at hl 0 rfl) ?_
  refine lv_iconst (v := 1) hx hb dL_law_852 (by decide) ?_
  refine lv_iadd hx hb dL_law_853 ?_
  refine s_ld hx hb hXs hbl hbA hVS hi1 (ha1) dL_law_854 ?_
  refine r_callV (As := [.int a1]) (rest := []) (st1 := [.int r]) ⟨hx, hb, hml, hown, hts⟩ (kX9_suitor l G ρ x a1 _ f1) (cu_V hts tw_3_45 tw_3_42 tw_3_43 tw_3_44 tw_1_1 hdX9_suitor rfl rfl ⟨Nat.le_of_ble_eq_true rfl, Nat.le_of_ble_eq_true rfl⟩) hK hR rfl g1 rfl hl.1 rfl (Nat.le_of_ble_eq_true rfl) dL_law_855 hcc rfl ?_
  refine lv_aload_n hx hb dL_law_858 rfl (lv_at hl 3 rfl) ?_
  refine lv_aload_n hx hb dL_law_859 rfl (lv_at hl 1 rfl) ?_
  refine lv_iload hx hb dL_law_860 (lv_at hl 0 rfl) ?_
  refine lv_iconst (v := 1) hx hb dL_law_862 (by decide) ?_
  refine lv_iadd hx hb dL_law_863 ?_
  refine s_ld hx hb hXs hbl hbA hVS hi1 (ha1) dL_law_864 ?_
  refine r_callV (As := [.int a1]) (rest := [.int r]) (st1 := [.int r, .int r]) ⟨hx, hb, hml, hown, hts⟩ (kX10_suitor l G ρ q a1 _ f2) (cu_V hts tw_5_176 tw_5_173 tw_5_174 tw_5_175 tw_1_4 hdX10_suitor rfl rfl ⟨Nat.le_of_ble_eq_true rfl, Nat.le_of_ble_eq_true rfl⟩) hK hR rfl g2 rfl hl.1 rfl (Nat.le_of_ble_eq_true rfl) dL_law_865 hcc rfl ?_
  refine lv_icmp_eq (tgt := 1558) hx hb dL_law_868 (by decide) (fun _ => ?_) (fun c9 => absurd rfl c9)
  refine W.widen (k := cells + 1) (n := slots + 8) (by omega) (by omega) ?_
  exact kk _ _ _ _ _ hRel2 ⟨hR, hS⟩ (lv_sub hl [0, 1, 2, 3, 4] rfl)
set_option maxHeartbeats 4000000 in
set_option maxRecDepth 100000 in
theorem lc_twins (C : LC p l s m c b L xs G) (sim : Sim_twins Rel) (hRel : Rel ρ x q o) (hLS : LSt G s ρ z H locs) (hc : cells + 1 ≤ 601024) (hs : slots + 8 ≤ 7293033) (hi : vp_in (x4 + 1) L ∧ vp_in (x4 + 2) L ∧ vp_in (x4 + 3) L ∧ vp_in (x4 + 4) L ∧ vp_in (x4 + 5) L) (hl : lv_has ls 8 [(4, .int x4), (0, .ref b), (1, .ref x), (2, .ref q), (3, .ref o)])
    (kk : ∀ (ρ2 : Rho) (z2 : Nat) (H2 : Heap) (locs2 : List Loc) (ls2 : Array Slot), Rel ρ2 x q o → LSt G s ρ2 z2 H2 locs2 → lv_has ls2 8 [(4, .int x4), (0, .ref b), (1, .ref x), (2, .ref q), (3, .ref o)] → W p l e room_1 s m #[Value.ref b] below meth c H2 locs2 (cells + 1) (slots + 8) Q (F0 m 1558 ls2 [])) : W p l e room_1 s m #[Value.ref b] below meth c H locs cells slots Q (F0 m 873 ls []) := by
  obtain ⟨hx, hb, hml, hown, hts, hK, hO, hX, hXs, hbl, hfl⟩ := C
  obtain ⟨hi1, hi2, hi3, hi4, hi5⟩ := hi
  have hlt := hLS.lt
  obtain ⟨hR, hS⟩ := hLS
  have hVS := hS.va
  have hbA : ¬ (fun y => s.heap.size ≤ y) b := Nat.not_le.mpr hbl
  have hcc : cells ≤ room_1.cells ∧ slots ≤ room_1.slots := ⟨Nat.le_trans (Nat.le_succ _) hc, Nat.le_trans (Nat.le_add_right _ _) hs⟩
  obtain ⟨a1, ha1⟩ : ∃ a, xs (x4 + 1).toNatClampNeg = a := ⟨_, rfl⟩
  obtain ⟨ux, r, um, g1, f1, g2, f2, hRel2⟩ := sim ρ z x q o a1 hRel hlt
  refine lv_aload_n hx hb dL_law_873 rfl (lv_at hl 2 rfl) ?_
  refine lv_aload_n hx hb dL_law_874 rfl (lv_at hl 1 rfl) ?_
  refine lv_iload hx hb dL_law_875 (lv_at hl 0 rfl) ?_
  refine lv_iconst (v := 1) hx hb dL_law_877 (by decide) ?_
  refine lv_iadd hx hb dL_law_878 ?_
  refine s_ld hx hb hXs hbl hbA hVS hi1 (ha1) dL_law_879 ?_
  refine r_callV (As := [.int a1]) (rest := []) (st1 := [.int r]) ⟨hx, hb, hml, hown, hts⟩ (kX9_twins l G ρ x a1 _ f1) (cu_V hts tw_3_59 tw_3_56 tw_3_57 tw_3_58 tw_1_1 hdX9_twins rfl rfl ⟨Nat.le_of_ble_eq_true rfl, Nat.le_of_ble_eq_true rfl⟩) hK hR rfl g1 rfl hl.1 rfl (Nat.le_of_ble_eq_true rfl) dL_law_880 hcc rfl ?_
  refine lv_aload_n hx hb dL_law_883 rfl (lv_at hl 3 rfl) ?_
  refine lv_aload_n hx hb dL_law_884 rfl (lv_at hl 1 rfl) ?_
  refine lv_iload hx hb dL_law_885 (lv_at hl 0 rfl) ?_
  refine lv_iconst (v := 1) hx hb dL_law_887 (by decide) ?_
  refine lv_iadd hx hb dL_law_888 ?_
  refine s_ld hx hb hXs hbl hbA hVS hi1 (ha1) dL_law_889 ?_
  refine r_callV (As := [.int a1]) (rest := [.int r]) (st1 := [.int r, .int r]) ⟨hx, hb, hml, hown, hts⟩ (kX10_twins l G ρ q a1 _ f2) (cu_V hts tw_5_184 tw_5_181 tw_5_182 tw_5_183 tw_1_4 hdX10_twins rfl rfl ⟨Nat.le_of_ble_eq_true rfl, Nat.le_of_ble_eq_true rfl⟩) hK hR rfl g2 rfl hl.1 rfl (Nat.le_of_ble_eq_true rfl) dL_law_890 hcc rfl ?_
  refine lv_icmp_eq (tgt := 1558) hx hb dL_law_893 (by decide) (fun _ => ?_) (fun c9 => absurd rfl c9)
  refine W.widen (k := cells + 1) (n := slots + 8) (by omega) (by omega) ?_
  exact kk _ _ _ _ _ hRel2 ⟨hR, hS⟩ (lv_sub hl [0, 1, 2, 3, 4] rfl)
set_option maxHeartbeats 4000000 in
set_option maxRecDepth 100000 in
theorem lc_whatWas (C : LC p l s m c b L xs G) (sim : Sim_whatWas Rel) (hRel : Rel ρ x q o) (hLS : LSt G s ρ z H locs) (hc : cells + 1 ≤ 601024) (hs : slots + 8 ≤ 7293033) (hi : vp_in (x4 + 1) L ∧ vp_in (x4 + 2) L ∧ vp_in (x4 + 3) L ∧ vp_in (x4 + 4) L ∧ vp_in (x4 + 5) L) (hl : lv_has ls 8 [(4, .int x4), (0, .ref b), (1, .ref x), (2, .ref q), (3, .ref o)])
    (kk : ∀ (ρ2 : Rho) (z2 : Nat) (H2 : Heap) (locs2 : List Loc) (ls2 : Array Slot), Rel ρ2 x q o → LSt G s ρ2 z2 H2 locs2 → lv_has ls2 8 [(4, .int x4), (0, .ref b), (1, .ref x), (2, .ref q), (3, .ref o)] → W p l e room_1 s m #[Value.ref b] below meth c H2 locs2 (cells + 1) (slots + 8) Q (F0 m 1558 ls2 [])) : W p l e room_1 s m #[Value.ref b] below meth c H locs cells slots Q (F0 m 898 ls []) := by
  obtain ⟨hx, hb, hml, hown, hts, hK, hO, hX, hXs, hbl, hfl⟩ := C
  obtain ⟨hi1, hi2, hi3, hi4, hi5⟩ := hi
  have hlt := hLS.lt
  obtain ⟨hR, hS⟩ := hLS
  have hVS := hS.va
  have hbA : ¬ (fun y => s.heap.size ≤ y) b := Nat.not_le.mpr hbl
  have hcc : cells ≤ room_1.cells ∧ slots ≤ room_1.slots := ⟨Nat.le_trans (Nat.le_succ _) hc, Nat.le_trans (Nat.le_add_right _ _) hs⟩
  obtain ⟨a1, ha1⟩ : ∃ a, xs (x4 + 1).toNatClampNeg = a := ⟨_, rfl⟩
  obtain ⟨a2, ha2⟩ : ∃ a, xs (x4 + 2).toNatClampNeg = a := ⟨_, rfl⟩
  obtain ⟨a3, ha3⟩ : ∃ a, xs (x4 + 3).toNatClampNeg = a := ⟨_, rfl⟩
  obtain ⟨a4, ha4⟩ : ∃ a, xs (x4 + 4).toNatClampNeg = a := ⟨_, rfl⟩
  obtain ⟨ux, r, um, g1, f1, g2, f2, hRel2⟩ := sim ρ z x q o a1 a2 a3 a4 hRel hlt
  refine lv_aload_n hx hb dL_law_898 rfl (lv_at hl 2 rfl) ?_
  refine lv_aload_n hx hb dL_law_899 rfl (lv_at hl 1 rfl) ?_
  refine lv_iload hx hb dL_law_900 (lv_at hl 0 rfl) ?_
  refine lv_iconst (v := 1) hx hb dL_law_902 (by decide) ?_
  refine lv_iadd hx hb dL_law_903 ?_
  refine s_ld hx hb hXs hbl hbA hVS hi1 (ha1) dL_law_904 ?_
  refine lv_aload_n hx hb dL_law_905 rfl (lv_at hl 1 rfl) ?_
  refine lv_iload hx hb dL_law_906 (lv_at hl 0 rfl) ?_
  refine lv_iconst (v := 2) hx hb dL_law_908 (by decide) ?_
  refine lv_iadd hx hb dL_law_909 ?_
  refine s_ld hx hb hXs hbl hbA hVS hi2 (ha2) dL_law_910 ?_
  refine lv_aload_n hx hb dL_law_911 rfl (lv_at hl 1 rfl) ?_
  refine lv_iload hx hb dL_law_912 (lv_at hl 0 rfl) ?_
  refine lv_iconst (v := 3) hx hb dL_law_914 (by decide) ?_
  refine lv_iadd hx hb dL_law_915 ?_
  refine s_ld hx hb hXs hbl hbA hVS hi3 (ha3) dL_law_916 ?_
  refine lv_aload_n hx hb dL_law_917 rfl (lv_at hl 1 rfl) ?_
  refine lv_iload hx hb dL_law_918 (lv_at hl 0 rfl) ?_
  refine lv_iconst (v := 4) hx hb dL_law_920 (by decide) ?_
  refine lv_iadd hx hb dL_law_921 ?_
  refine s_ld hx hb hXs hbl hbA hVS hi4 (ha4) dL_law_922 ?_
  refine r_callV (As := [.int a1, .int a2, .int a3, .int a4]) (rest := []) (st1 := [.int r]) ⟨hx, hb, hml, hown, hts⟩ (kX9_whatWas l G ρ x a1 a2 a3 a4 _ f1) (cu_V hts tw_3_72 tw_3_69 tw_3_70 tw_3_71 tw_1_1 hdX9_whatWas rfl rfl ⟨Nat.le_of_ble_eq_true rfl, Nat.le_of_ble_eq_true rfl⟩) hK hR rfl g1 rfl hl.1 rfl (Nat.le_of_ble_eq_true rfl) dL_law_923 hcc rfl ?_
  refine lv_aload_n hx hb dL_law_926 rfl (lv_at hl 3 rfl) ?_
  refine lv_aload_n hx hb dL_law_927 rfl (lv_at hl 1 rfl) ?_
  refine lv_iload hx hb dL_law_928 (lv_at hl 0 rfl) ?_
  refine lv_iconst (v := 1) hx hb dL_law_930 (by decide) ?_
  refine lv_iadd hx hb dL_law_931 ?_
  refine s_ld hx hb hXs hbl hbA hVS hi1 (ha1) dL_law_932 ?_
  refine lv_aload_n hx hb dL_law_933 rfl (lv_at hl 1 rfl) ?_
  refine lv_iload hx hb dL_law_934 (lv_at hl 0 rfl) ?_
  refine lv_iconst (v := 2) hx hb dL_law_936 (by decide) ?_
  refine lv_iadd hx hb dL_law_937 ?_
  refine s_ld hx hb hXs hbl hbA hVS hi2 (ha2) dL_law_938 ?_
  refine lv_aload_n hx hb dL_law_939 rfl (lv_at hl 1 rfl) ?_
  refine lv_iload hx hb dL_law_940 (lv_at hl 0 rfl) ?_
  refine lv_iconst (v := 3) hx hb dL_law_942 (by decide) ?_
  refine lv_iadd hx hb dL_law_943 ?_
  refine s_ld hx hb hXs hbl hbA hVS hi3 (ha3) dL_law_944 ?_
  refine lv_aload_n hx hb dL_law_945 rfl (lv_at hl 1 rfl) ?_
  refine lv_iload hx hb dL_law_946 (lv_at hl 0 rfl) ?_
  refine lv_iconst (v := 4) hx hb dL_law_948 (by decide) ?_
  refine lv_iadd hx hb dL_law_949 ?_
  refine s_ld hx hb hXs hbl hbA hVS hi4 (ha4) dL_law_950 ?_
  refine r_callV (As := [.int a1, .int a2, .int a3, .int a4]) (rest := [.int r]) (st1 := [.int r, .int r]) ⟨hx, hb, hml, hown, hts⟩ (kX10_whatWas l G ρ q a1 a2 a3 a4 _ f2) (cu_V hts tw_5_192 tw_5_189 tw_5_190 tw_5_191 tw_1_4 hdX10_whatWas rfl rfl ⟨Nat.le_of_ble_eq_true rfl, Nat.le_of_ble_eq_true rfl⟩) hK hR rfl g2 rfl hl.1 rfl (Nat.le_of_ble_eq_true rfl) dL_law_951 hcc rfl ?_
  refine lv_icmp_eq (tgt := 1558) hx hb dL_law_954 (by decide) (fun _ => ?_) (fun c9 => absurd rfl c9)
  refine W.widen (k := cells + 1) (n := slots + 8) (by omega) (by omega) ?_
  exact kk _ _ _ _ _ hRel2 ⟨hR, hS⟩ (lv_sub hl [0, 1, 2, 3, 4] rfl)
set_option maxHeartbeats 4000000 in
set_option maxRecDepth 100000 in
theorem lc_paidOff (C : LC p l s m c b L xs G) (sim : Sim_paidOff Rel) (hRel : Rel ρ x q o) (hLS : LSt G s ρ z H locs) (hc : cells + 1 ≤ 601024) (hs : slots + 8 ≤ 7293033) (hi : vp_in (x4 + 1) L ∧ vp_in (x4 + 2) L ∧ vp_in (x4 + 3) L ∧ vp_in (x4 + 4) L ∧ vp_in (x4 + 5) L) (hl : lv_has ls 8 [(4, .int x4), (0, .ref b), (1, .ref x), (2, .ref q), (3, .ref o)])
    (kk : ∀ (ρ2 : Rho) (z2 : Nat) (H2 : Heap) (locs2 : List Loc) (ls2 : Array Slot), Rel ρ2 x q o → LSt G s ρ2 z2 H2 locs2 → lv_has ls2 8 [(4, .int x4), (0, .ref b), (1, .ref x), (2, .ref q), (3, .ref o)] → W p l e room_1 s m #[Value.ref b] below meth c H2 locs2 (cells + 1) (slots + 8) Q (F0 m 1558 ls2 [])) : W p l e room_1 s m #[Value.ref b] below meth c H locs cells slots Q (F0 m 959 ls []) := by
  obtain ⟨hx, hb, hml, hown, hts, hK, hO, hX, hXs, hbl, hfl⟩ := C
  obtain ⟨hi1, hi2, hi3, hi4, hi5⟩ := hi
  have hlt := hLS.lt
  obtain ⟨hR, hS⟩ := hLS
  have hVS := hS.va
  have hbA : ¬ (fun y => s.heap.size ≤ y) b := Nat.not_le.mpr hbl
  have hcc : cells ≤ room_1.cells ∧ slots ≤ room_1.slots := ⟨Nat.le_trans (Nat.le_succ _) hc, Nat.le_trans (Nat.le_add_right _ _) hs⟩
  obtain ⟨a1, ha1⟩ : ∃ a, xs (x4 + 1).toNatClampNeg = a := ⟨_, rfl⟩
  obtain ⟨ux, r, um, ρ2, g1, f1, g2, f2, hRel2⟩ := sim ρ z x q o a1 hRel hlt
  refine lv_aload_n hx hb dL_law_959 rfl (lv_at hl 2 rfl) ?_
  refine lv_aload_n hx hb dL_law_960 rfl (lv_at hl 1 rfl) ?_
  refine lv_iload hx hb dL_law_961 (lv_at hl 0 rfl) ?_
  refine lv_iconst (v := 1) hx hb dL_law_963 (by decide) ?_
  refine lv_iadd hx hb dL_law_964 ?_
  refine s_ld hx hb hXs hbl hbA hVS hi1 (ha1) dL_law_965 ?_
  refine r_callV (As := [.int a1]) (rest := []) (st1 := [.int r]) ⟨hx, hb, hml, hown, hts⟩ (kX9_paidOff l G ρ x a1 _ f1) (cu_V hts tw_3_91 tw_3_88 tw_3_89 tw_3_90 tw_1_1 hdX9_paidOff rfl rfl ⟨Nat.le_of_ble_eq_true rfl, Nat.le_of_ble_eq_true rfl⟩) hK hR rfl g1 rfl hl.1 rfl (Nat.le_of_ble_eq_true rfl) dL_law_966 hcc rfl ?_
  refine lv_aload_n hx hb dL_law_969 rfl (lv_at hl 3 rfl) ?_
  refine lv_aload_n hx hb dL_law_970 rfl (lv_at hl 1 rfl) ?_
  refine lv_iload hx hb dL_law_971 (lv_at hl 0 rfl) ?_
  refine lv_iconst (v := 1) hx hb dL_law_973 (by decide) ?_
  refine lv_iadd hx hb dL_law_974 ?_
  refine s_ld hx hb hXs hbl hbA hVS hi1 (ha1) dL_law_975 ?_
  refine aw_callV (As := [.int a1]) (rest := [.int r]) (st1 := [.int r, .int r]) ⟨hx, hb, hml, hown, hts⟩ (kX10_paidOff l G ρ q a1 _ _ f2) (cu_V hts tw_5_200 tw_5_197 tw_5_198 tw_5_199 tw_1_4 hdX10_paidOff rfl rfl ⟨Nat.le_of_ble_eq_true rfl, Nat.le_of_ble_eq_true rfl⟩) hK hR hS rfl g2 rfl hl.1 rfl (Nat.le_of_ble_eq_true rfl) dL_law_976 hcc rfl (fun H locs hR hS => ?_)
  refine lv_icmp_eq (tgt := 1558) hx hb dL_law_979 (by decide) (fun _ => ?_) (fun c9 => absurd rfl c9)
  refine W.widen (k := cells + 1) (n := slots + 8) (by omega) (by omega) ?_
  exact kk _ _ _ _ _ hRel2 ⟨hR, hS⟩ (lv_sub hl [0, 1, 2, 3, 4] rfl)
set_option maxHeartbeats 4000000 in
set_option maxRecDepth 100000 in
theorem lc_rain (C : LC p l s m c b L xs G) (sim : Sim_rain Rel) (hRel : Rel ρ x q o) (hLS : LSt G s ρ z H locs) (hc : cells + 1 ≤ 601024) (hs : slots + 8 ≤ 7293033) (hi : vp_in (x4 + 1) L ∧ vp_in (x4 + 2) L ∧ vp_in (x4 + 3) L ∧ vp_in (x4 + 4) L ∧ vp_in (x4 + 5) L) (hl : lv_has ls 8 [(4, .int x4), (0, .ref b), (1, .ref x), (2, .ref q), (3, .ref o)])
    (kk : ∀ (ρ2 : Rho) (z2 : Nat) (H2 : Heap) (locs2 : List Loc) (ls2 : Array Slot), Rel ρ2 x q o → LSt G s ρ2 z2 H2 locs2 → lv_has ls2 8 [(4, .int x4), (0, .ref b), (1, .ref x), (2, .ref q), (3, .ref o)] → W p l e room_1 s m #[Value.ref b] below meth c H2 locs2 (cells + 1) (slots + 8) Q (F0 m 1558 ls2 [])) : W p l e room_1 s m #[Value.ref b] below meth c H locs cells slots Q (F0 m 984 ls []) := by
  obtain ⟨hx, hb, hml, hown, hts, hK, hO, hX, hXs, hbl, hfl⟩ := C
  obtain ⟨hi1, hi2, hi3, hi4, hi5⟩ := hi
  have hlt := hLS.lt
  obtain ⟨hR, hS⟩ := hLS
  have hVS := hS.va
  have hbA : ¬ (fun y => s.heap.size ≤ y) b := Nat.not_le.mpr hbl
  have hcc : cells ≤ room_1.cells ∧ slots ≤ room_1.slots := ⟨Nat.le_trans (Nat.le_succ _) hc, Nat.le_trans (Nat.le_add_right _ _) hs⟩
  obtain ⟨a1, ha1⟩ : ∃ a, xs (x4 + 1).toNatClampNeg = a := ⟨_, rfl⟩
  obtain ⟨a2, ha2⟩ : ∃ a, xs (x4 + 2).toNatClampNeg = a := ⟨_, rfl⟩
  obtain ⟨a3, ha3⟩ : ∃ a, xs (x4 + 3).toNatClampNeg = a := ⟨_, rfl⟩
  obtain ⟨a4, ha4⟩ : ∃ a, xs (x4 + 4).toNatClampNeg = a := ⟨_, rfl⟩
  obtain ⟨ux, r, um, g1, f1, g2, f2, hRel2⟩ := sim ρ z x q o a1 a2 a3 a4 hRel hlt
  refine lv_aload_n hx hb dL_law_984 rfl (lv_at hl 2 rfl) ?_
  refine lv_aload_n hx hb dL_law_985 rfl (lv_at hl 1 rfl) ?_
  refine lv_iload hx hb dL_law_986 (lv_at hl 0 rfl) ?_
  refine lv_iconst (v := 1) hx hb dL_law_988 (by decide) ?_
  refine lv_iadd hx hb dL_law_989 ?_
  refine s_ld hx hb hXs hbl hbA hVS hi1 (ha1) dL_law_990 ?_
  refine lv_aload_n hx hb dL_law_991 rfl (lv_at hl 1 rfl) ?_
  refine lv_iload hx hb dL_law_992 (lv_at hl 0 rfl) ?_
  refine lv_iconst (v := 2) hx hb dL_law_994 (by decide) ?_
  refine lv_iadd hx hb dL_law_995 ?_
  refine s_ld hx hb hXs hbl hbA hVS hi2 (ha2) dL_law_996 ?_
  refine lv_aload_n hx hb dL_law_997 rfl (lv_at hl 1 rfl) ?_
  refine lv_iload hx hb dL_law_998 (lv_at hl 0 rfl) ?_
  refine lv_iconst (v := 3) hx hb dL_law_1000 (by decide) ?_
  refine lv_iadd hx hb dL_law_1001 ?_
  refine s_ld hx hb hXs hbl hbA hVS hi3 (ha3) dL_law_1002 ?_
  refine lv_aload_n hx hb dL_law_1003 rfl (lv_at hl 1 rfl) ?_
  refine lv_iload hx hb dL_law_1004 (lv_at hl 0 rfl) ?_
  refine lv_iconst (v := 4) hx hb dL_law_1006 (by decide) ?_
  refine lv_iadd hx hb dL_law_1007 ?_
  refine s_ld hx hb hXs hbl hbA hVS hi4 (ha4) dL_law_1008 ?_
  refine r_callV (As := [.int a1, .int a2, .int a3, .int a4]) (rest := []) (st1 := [.long r]) ⟨hx, hb, hml, hown, hts⟩ (kX9_rain l G ρ x a1 a2 a3 a4 _ f1) (cu_V hts tw_3_101 tw_3_98 tw_3_99 tw_3_100 tw_1_1 hdX9_rain rfl rfl ⟨Nat.le_of_ble_eq_true rfl, Nat.le_of_ble_eq_true rfl⟩) hK hR rfl g1 rfl hl.1 rfl (Nat.le_of_ble_eq_true rfl) dL_law_1009 hcc rfl ?_
  refine lv_aload_n hx hb dL_law_1012 rfl (lv_at hl 3 rfl) ?_
  refine lv_aload_n hx hb dL_law_1013 rfl (lv_at hl 1 rfl) ?_
  refine lv_iload hx hb dL_law_1014 (lv_at hl 0 rfl) ?_
  refine lv_iconst (v := 1) hx hb dL_law_1016 (by decide) ?_
  refine lv_iadd hx hb dL_law_1017 ?_
  refine s_ld hx hb hXs hbl hbA hVS hi1 (ha1) dL_law_1018 ?_
  refine lv_aload_n hx hb dL_law_1019 rfl (lv_at hl 1 rfl) ?_
  refine lv_iload hx hb dL_law_1020 (lv_at hl 0 rfl) ?_
  refine lv_iconst (v := 2) hx hb dL_law_1022 (by decide) ?_
  refine lv_iadd hx hb dL_law_1023 ?_
  refine s_ld hx hb hXs hbl hbA hVS hi2 (ha2) dL_law_1024 ?_
  refine lv_aload_n hx hb dL_law_1025 rfl (lv_at hl 1 rfl) ?_
  refine lv_iload hx hb dL_law_1026 (lv_at hl 0 rfl) ?_
  refine lv_iconst (v := 3) hx hb dL_law_1028 (by decide) ?_
  refine lv_iadd hx hb dL_law_1029 ?_
  refine s_ld hx hb hXs hbl hbA hVS hi3 (ha3) dL_law_1030 ?_
  refine lv_aload_n hx hb dL_law_1031 rfl (lv_at hl 1 rfl) ?_
  refine lv_iload hx hb dL_law_1032 (lv_at hl 0 rfl) ?_
  refine lv_iconst (v := 4) hx hb dL_law_1034 (by decide) ?_
  refine lv_iadd hx hb dL_law_1035 ?_
  refine s_ld hx hb hXs hbl hbA hVS hi4 (ha4) dL_law_1036 ?_
  refine r_callV (As := [.int a1, .int a2, .int a3, .int a4]) (rest := [.long r]) (st1 := [.long r, .long r]) ⟨hx, hb, hml, hown, hts⟩ (kX10_rain l G ρ q a1 a2 a3 a4 _ f2) (cu_V hts tw_5_204 tw_5_201 tw_5_202 tw_5_203 tw_1_4 hdX10_rain rfl rfl ⟨Nat.le_of_ble_eq_true rfl, Nat.le_of_ble_eq_true rfl⟩) hK hR rfl g2 rfl hl.1 rfl (Nat.le_of_ble_eq_true rfl) dL_law_1037 hcc rfl ?_
  refine W.lcmp hx hb dL_law_1040 ?_
  refine lv_if_eq (tgt := 1558) hx hb dL_law_1041 (by decide) (fun _ => ?_) (fun c9 => absurd (lg_cmp_self _) c9)
  refine W.widen (k := cells + 1) (n := slots + 8) (by omega) (by omega) ?_
  exact kk _ _ _ _ _ hRel2 ⟨hR, hS⟩ (lv_sub hl [0, 1, 2, 3, 4] rfl)
set_option maxHeartbeats 4000000 in
set_option maxRecDepth 100000 in
theorem lc_loophole (C : LC p l s m c b L xs G) (sim : Sim_loophole Rel) (hRel : Rel ρ x q o) (hLS : LSt G s ρ z H locs) (hc : cells + 1 ≤ 601024) (hs : slots + 8 ≤ 7293033) (hi : vp_in (x4 + 1) L ∧ vp_in (x4 + 2) L ∧ vp_in (x4 + 3) L ∧ vp_in (x4 + 4) L ∧ vp_in (x4 + 5) L) (hl : lv_has ls 8 [(4, .int x4), (0, .ref b), (1, .ref x), (2, .ref q), (3, .ref o)])
    (kk : ∀ (ρ2 : Rho) (z2 : Nat) (H2 : Heap) (locs2 : List Loc) (ls2 : Array Slot), Rel ρ2 x q o → LSt G s ρ2 z2 H2 locs2 → lv_has ls2 8 [(4, .int x4), (0, .ref b), (1, .ref x), (2, .ref q), (3, .ref o)] → W p l e room_1 s m #[Value.ref b] below meth c H2 locs2 (cells + 1) (slots + 8) Q (F0 m 1558 ls2 [])) : W p l e room_1 s m #[Value.ref b] below meth c H locs cells slots Q (F0 m 1046 ls []) := by
  obtain ⟨hx, hb, hml, hown, hts, hK, hO, hX, hXs, hbl, hfl⟩ := C
  obtain ⟨hi1, hi2, hi3, hi4, hi5⟩ := hi
  have hlt := hLS.lt
  obtain ⟨hR, hS⟩ := hLS
  have hVS := hS.va
  have hbA : ¬ (fun y => s.heap.size ≤ y) b := Nat.not_le.mpr hbl
  have hcc : cells ≤ room_1.cells ∧ slots ≤ room_1.slots := ⟨Nat.le_trans (Nat.le_succ _) hc, Nat.le_trans (Nat.le_add_right _ _) hs⟩
  obtain ⟨ux, r, ρ1, um, ρ2, g1, f1, g2, f2, hRel2⟩ := sim ρ z x q o hRel hlt
  refine lv_aload_n hx hb dL_law_1046 rfl (lv_at hl 2 rfl) ?_
  refine aw_callV (As := []) (rest := []) (st1 := [.int r]) ⟨hx, hb, hml, hown, hts⟩ (kX9_loophole l G ρ x _ _ f1) (cu_V hts tw_3_112 tw_3_109 tw_3_110 tw_3_111 tw_1_1 hdX9_loophole rfl rfl ⟨Nat.le_of_ble_eq_true rfl, Nat.le_of_ble_eq_true rfl⟩) hK hR hS rfl g1 rfl hl.1 rfl (Nat.le_of_ble_eq_true rfl) dL_law_1047 hcc rfl (fun H locs hR hS => ?_)
  have hVS := hS.va
  refine lv_aload_n hx hb dL_law_1050 rfl (lv_at hl 3 rfl) ?_
  refine aw_callV (As := []) (rest := [.int r]) (st1 := [.int r, .int r]) ⟨hx, hb, hml, hown, hts⟩ (kX10_loophole l G ρ1 q _ _ f2) (cu_V hts tw_5_208 tw_5_205 tw_5_206 tw_5_207 tw_1_4 hdX10_loophole rfl rfl ⟨Nat.le_of_ble_eq_true rfl, Nat.le_of_ble_eq_true rfl⟩) hK hR hS rfl g2 rfl hl.1 rfl (Nat.le_of_ble_eq_true rfl) dL_law_1051 hcc rfl (fun H locs hR hS => ?_)
  refine lv_icmp_eq (tgt := 1558) hx hb dL_law_1054 (by decide) (fun _ => ?_) (fun c9 => absurd rfl c9)
  refine W.widen (k := cells + 1) (n := slots + 8) (by omega) (by omega) ?_
  exact kk _ _ _ _ _ hRel2 ⟨hR, hS⟩ (lv_sub hl [0, 1, 2, 3, 4] rfl)
set_option maxHeartbeats 4000000 in
set_option maxRecDepth 100000 in
theorem lc_forged (C : LC p l s m c b L xs G) (sim : Sim_forged Rel) (hRel : Rel ρ x q o) (hLS : LSt G s ρ z H locs) (hc : cells + 1 ≤ 601024) (hs : slots + 8 ≤ 7293033) (hi : vp_in (x4 + 1) L ∧ vp_in (x4 + 2) L ∧ vp_in (x4 + 3) L ∧ vp_in (x4 + 4) L ∧ vp_in (x4 + 5) L) (hl : lv_has ls 8 [(4, .int x4), (0, .ref b), (1, .ref x), (2, .ref q), (3, .ref o)])
    (kk : ∀ (ρ2 : Rho) (z2 : Nat) (H2 : Heap) (locs2 : List Loc) (ls2 : Array Slot), Rel ρ2 x q o → LSt G s ρ2 z2 H2 locs2 → lv_has ls2 8 [(4, .int x4), (0, .ref b), (1, .ref x), (2, .ref q), (3, .ref o)] → W p l e room_1 s m #[Value.ref b] below meth c H2 locs2 (cells + 1) (slots + 8) Q (F0 m 1558 ls2 [])) : W p l e room_1 s m #[Value.ref b] below meth c H locs cells slots Q (F0 m 1059 ls []) := by
  obtain ⟨hx, hb, hml, hown, hts, hK, hO, hX, hXs, hbl, hfl⟩ := C
  obtain ⟨hi1, hi2, hi3, hi4, hi5⟩ := hi
  have hlt := hLS.lt
  obtain ⟨hR, hS⟩ := hLS
  have hVS := hS.va
  have hbA : ¬ (fun y => s.heap.size ≤ y) b := Nat.not_le.mpr hbl
  have hcc : cells ≤ room_1.cells ∧ slots ≤ room_1.slots := ⟨Nat.le_trans (Nat.le_succ _) hc, Nat.le_trans (Nat.le_add_right _ _) hs⟩
  obtain ⟨a1, ha1⟩ : ∃ a, xs (x4 + 1).toNatClampNeg = a := ⟨_, rfl⟩
  obtain ⟨ux, r, um, g1, f1, g2, f2, hRel2⟩ := sim ρ z x q o a1 hRel hlt
  refine lv_aload_n hx hb dL_law_1059 rfl (lv_at hl 2 rfl) ?_
  refine lv_aload_n hx hb dL_law_1060 rfl (lv_at hl 1 rfl) ?_
  refine lv_iload hx hb dL_law_1061 (lv_at hl 0 rfl) ?_
  refine lv_iconst (v := 1) hx hb dL_law_1063 (by decide) ?_
  refine lv_iadd hx hb dL_law_1064 ?_
  refine s_ld hx hb hXs hbl hbA hVS hi1 (ha1) dL_law_1065 ?_
  refine r_callV (As := [.int a1]) (rest := []) (st1 := [.int r]) ⟨hx, hb, hml, hown, hts⟩ (kX9_forged l G ρ x a1 _ f1) (cu_V hts tw_3_124 tw_3_121 tw_3_122 tw_3_123 tw_1_1 hdX9_forged rfl rfl ⟨Nat.le_of_ble_eq_true rfl, Nat.le_of_ble_eq_true rfl⟩) hK hR rfl g1 rfl hl.1 rfl (Nat.le_of_ble_eq_true rfl) dL_law_1066 hcc rfl ?_
  refine lv_aload_n hx hb dL_law_1069 rfl (lv_at hl 3 rfl) ?_
  refine lv_aload_n hx hb dL_law_1070 rfl (lv_at hl 1 rfl) ?_
  refine lv_iload hx hb dL_law_1071 (lv_at hl 0 rfl) ?_
  refine lv_iconst (v := 1) hx hb dL_law_1073 (by decide) ?_
  refine lv_iadd hx hb dL_law_1074 ?_
  refine s_ld hx hb hXs hbl hbA hVS hi1 (ha1) dL_law_1075 ?_
  refine r_callV (As := [.int a1]) (rest := [.int r]) (st1 := [.int r, .int r]) ⟨hx, hb, hml, hown, hts⟩ (kX10_forged l G ρ q a1 _ f2) (cu_V hts tw_5_212 tw_5_209 tw_5_210 tw_5_211 tw_1_4 hdX10_forged rfl rfl ⟨Nat.le_of_ble_eq_true rfl, Nat.le_of_ble_eq_true rfl⟩) hK hR rfl g2 rfl hl.1 rfl (Nat.le_of_ble_eq_true rfl) dL_law_1076 hcc rfl ?_
  refine lv_icmp_eq (tgt := 1558) hx hb dL_law_1079 (by decide) (fun _ => ?_) (fun c9 => absurd rfl c9)
  refine W.widen (k := cells + 1) (n := slots + 8) (by omega) (by omega) ?_
  exact kk _ _ _ _ _ hRel2 ⟨hR, hS⟩ (lv_sub hl [0, 1, 2, 3, 4] rfl)
set_option maxHeartbeats 4000000 in
set_option maxRecDepth 100000 in
theorem lc_judge (C : LC p l s m c b L xs G) (sim : Sim_judge Rel) (hRel : Rel ρ x q o) (hLS : LSt G s ρ z H locs) (hc : cells + 1 ≤ 601024) (hs : slots + 8 ≤ 7293033) (hi : vp_in (x4 + 1) L ∧ vp_in (x4 + 2) L ∧ vp_in (x4 + 3) L ∧ vp_in (x4 + 4) L ∧ vp_in (x4 + 5) L) (hl : lv_has ls 8 [(4, .int x4), (0, .ref b), (1, .ref x), (2, .ref q), (3, .ref o)])
    (kk : ∀ (ρ2 : Rho) (z2 : Nat) (H2 : Heap) (locs2 : List Loc) (ls2 : Array Slot), Rel ρ2 x q o → LSt G s ρ2 z2 H2 locs2 → lv_has ls2 8 [(4, .int x4), (0, .ref b), (1, .ref x), (2, .ref q), (3, .ref o)] → W p l e room_1 s m #[Value.ref b] below meth c H2 locs2 (cells + 1) (slots + 8) Q (F0 m 1558 ls2 [])) : W p l e room_1 s m #[Value.ref b] below meth c H locs cells slots Q (F0 m 1084 ls []) := by
  obtain ⟨hx, hb, hml, hown, hts, hK, hO, hX, hXs, hbl, hfl⟩ := C
  obtain ⟨hi1, hi2, hi3, hi4, hi5⟩ := hi
  have hlt := hLS.lt
  obtain ⟨hR, hS⟩ := hLS
  have hVS := hS.va
  have hbA : ¬ (fun y => s.heap.size ≤ y) b := Nat.not_le.mpr hbl
  have hcc : cells ≤ room_1.cells ∧ slots ≤ room_1.slots := ⟨Nat.le_trans (Nat.le_succ _) hc, Nat.le_trans (Nat.le_add_right _ _) hs⟩
  obtain ⟨a1, ha1⟩ : ∃ a, xs (x4 + 1).toNatClampNeg = a := ⟨_, rfl⟩
  obtain ⟨ux, r, um, ρ2, g1, f1, g2, f2, hRel2⟩ := sim ρ z x q o a1 hRel hlt
  refine lv_aload_n hx hb dL_law_1084 rfl (lv_at hl 2 rfl) ?_
  refine lv_aload_n hx hb dL_law_1085 rfl (lv_at hl 1 rfl) ?_
  refine lv_iload hx hb dL_law_1086 (lv_at hl 0 rfl) ?_
  refine lv_iconst (v := 1) hx hb dL_law_1088 (by decide) ?_
  refine lv_iadd hx hb dL_law_1089 ?_
  refine s_ld hx hb hXs hbl hbA hVS hi1 (ha1) dL_law_1090 ?_
  refine r_callV (As := [.int a1]) (rest := []) (st1 := [.int r]) ⟨hx, hb, hml, hown, hts⟩ (kX9_judge l G ρ x a1 _ f1) (cu_V hts tw_3_135 tw_3_132 tw_3_133 tw_3_134 tw_1_1 hdX9_judge rfl rfl ⟨Nat.le_of_ble_eq_true rfl, Nat.le_of_ble_eq_true rfl⟩) hK hR rfl g1 rfl hl.1 rfl (Nat.le_of_ble_eq_true rfl) dL_law_1091 hcc rfl ?_
  refine lv_aload_n hx hb dL_law_1094 rfl (lv_at hl 3 rfl) ?_
  refine lv_aload_n hx hb dL_law_1095 rfl (lv_at hl 1 rfl) ?_
  refine lv_iload hx hb dL_law_1096 (lv_at hl 0 rfl) ?_
  refine lv_iconst (v := 1) hx hb dL_law_1098 (by decide) ?_
  refine lv_iadd hx hb dL_law_1099 ?_
  refine s_ld hx hb hXs hbl hbA hVS hi1 (ha1) dL_law_1100 ?_
  refine aw_callV (As := [.int a1]) (rest := [.int r]) (st1 := [.int r, .int r]) ⟨hx, hb, hml, hown, hts⟩ (kX10_judge l G ρ q a1 _ _ f2) (cu_V hts tw_5_216 tw_5_213 tw_5_214 tw_5_215 tw_1_4 hdX10_judge rfl rfl ⟨Nat.le_of_ble_eq_true rfl, Nat.le_of_ble_eq_true rfl⟩) hK hR hS rfl g2 rfl hl.1 rfl (Nat.le_of_ble_eq_true rfl) dL_law_1101 hcc rfl (fun H locs hR hS => ?_)
  refine lv_icmp_eq (tgt := 1558) hx hb dL_law_1104 (by decide) (fun _ => ?_) (fun c9 => absurd rfl c9)
  refine W.widen (k := cells + 1) (n := slots + 8) (by omega) (by omega) ?_
  exact kk _ _ _ _ _ hRel2 ⟨hR, hS⟩ (lv_sub hl [0, 1, 2, 3, 4] rfl)
set_option maxHeartbeats 4000000 in
set_option maxRecDepth 100000 in
theorem lc_lots (C : LC p l s m c b L xs G) (sim : Sim_lots Rel) (hRel : Rel ρ x q o) (hLS : LSt G s ρ z H locs) (hc : cells + 1 ≤ 601024) (hs : slots + 8 ≤ 7293033) (hi : vp_in (x4 + 1) L ∧ vp_in (x4 + 2) L ∧ vp_in (x4 + 3) L ∧ vp_in (x4 + 4) L ∧ vp_in (x4 + 5) L) (hl : lv_has ls 8 [(4, .int x4), (0, .ref b), (1, .ref x), (2, .ref q), (3, .ref o)])
    (kk : ∀ (ρ2 : Rho) (z2 : Nat) (H2 : Heap) (locs2 : List Loc) (ls2 : Array Slot), Rel ρ2 x q o → LSt G s ρ2 z2 H2 locs2 → lv_has ls2 8 [(4, .int x4), (0, .ref b), (1, .ref x), (2, .ref q), (3, .ref o)] → W p l e room_1 s m #[Value.ref b] below meth c H2 locs2 (cells + 1) (slots + 8) Q (F0 m 1558 ls2 [])) : W p l e room_1 s m #[Value.ref b] below meth c H locs cells slots Q (F0 m 1109 ls []) := by
  obtain ⟨hx, hb, hml, hown, hts, hK, hO, hX, hXs, hbl, hfl⟩ := C
  obtain ⟨hi1, hi2, hi3, hi4, hi5⟩ := hi
  have hlt := hLS.lt
  obtain ⟨hR, hS⟩ := hLS
  have hVS := hS.va
  have hbA : ¬ (fun y => s.heap.size ≤ y) b := Nat.not_le.mpr hbl
  have hcc : cells ≤ room_1.cells ∧ slots ≤ room_1.slots := ⟨Nat.le_trans (Nat.le_succ _) hc, Nat.le_trans (Nat.le_add_right _ _) hs⟩
  obtain ⟨a1, ha1⟩ : ∃ a, xs (x4 + 1).toNatClampNeg = a := ⟨_, rfl⟩
  obtain ⟨a2, ha2⟩ : ∃ a, xs (x4 + 2).toNatClampNeg = a := ⟨_, rfl⟩
  obtain ⟨a3, ha3⟩ : ∃ a, xs (x4 + 3).toNatClampNeg = a := ⟨_, rfl⟩
  obtain ⟨ux, r, um, ρ2, g1, f1, g2, f2, hRel2⟩ := sim ρ z x q o a1 a2 a3 hRel hlt
  refine lv_aload_n hx hb dL_law_1109 rfl (lv_at hl 2 rfl) ?_
  refine lv_aload_n hx hb dL_law_1110 rfl (lv_at hl 1 rfl) ?_
  refine lv_iload hx hb dL_law_1111 (lv_at hl 0 rfl) ?_
  refine lv_iconst (v := 1) hx hb dL_law_1113 (by decide) ?_
  refine lv_iadd hx hb dL_law_1114 ?_
  refine s_ld hx hb hXs hbl hbA hVS hi1 (ha1) dL_law_1115 ?_
  refine lv_aload_n hx hb dL_law_1116 rfl (lv_at hl 1 rfl) ?_
  refine lv_iload hx hb dL_law_1117 (lv_at hl 0 rfl) ?_
  refine lv_iconst (v := 2) hx hb dL_law_1119 (by decide) ?_
  refine lv_iadd hx hb dL_law_1120 ?_
  refine s_ld hx hb hXs hbl hbA hVS hi2 (ha2) dL_law_1121 ?_
  refine lv_aload_n hx hb dL_law_1122 rfl (lv_at hl 1 rfl) ?_
  refine lv_iload hx hb dL_law_1123 (lv_at hl 0 rfl) ?_
  refine lv_iconst (v := 3) hx hb dL_law_1125 (by decide) ?_
  refine lv_iadd hx hb dL_law_1126 ?_
  refine s_ld hx hb hXs hbl hbA hVS hi3 (ha3) dL_law_1127 ?_
  refine r_callV (As := [.int a1, .int a2, .int a3]) (rest := []) (st1 := [.int r]) ⟨hx, hb, hml, hown, hts⟩ (kX9_lots l G ρ x a1 a2 a3 _ f1) (cu_V hts tw_3_143 tw_3_140 tw_3_141 tw_3_142 tw_1_1 hdX9_lots rfl rfl ⟨Nat.le_of_ble_eq_true rfl, Nat.le_of_ble_eq_true rfl⟩) hK hR rfl g1 rfl hl.1 rfl (Nat.le_of_ble_eq_true rfl) dL_law_1128 hcc rfl ?_
  refine lv_aload_n hx hb dL_law_1131 rfl (lv_at hl 3 rfl) ?_
  refine lv_aload_n hx hb dL_law_1132 rfl (lv_at hl 1 rfl) ?_
  refine lv_iload hx hb dL_law_1133 (lv_at hl 0 rfl) ?_
  refine lv_iconst (v := 1) hx hb dL_law_1135 (by decide) ?_
  refine lv_iadd hx hb dL_law_1136 ?_
  refine s_ld hx hb hXs hbl hbA hVS hi1 (ha1) dL_law_1137 ?_
  refine lv_aload_n hx hb dL_law_1138 rfl (lv_at hl 1 rfl) ?_
  refine lv_iload hx hb dL_law_1139 (lv_at hl 0 rfl) ?_
  refine lv_iconst (v := 2) hx hb dL_law_1141 (by decide) ?_
  refine lv_iadd hx hb dL_law_1142 ?_
  refine s_ld hx hb hXs hbl hbA hVS hi2 (ha2) dL_law_1143 ?_
  refine lv_aload_n hx hb dL_law_1144 rfl (lv_at hl 1 rfl) ?_
  refine lv_iload hx hb dL_law_1145 (lv_at hl 0 rfl) ?_
  refine lv_iconst (v := 3) hx hb dL_law_1147 (by decide) ?_
  refine lv_iadd hx hb dL_law_1148 ?_
  refine s_ld hx hb hXs hbl hbA hVS hi3 (ha3) dL_law_1149 ?_
  refine aw_callV (As := [.int a1, .int a2, .int a3]) (rest := [.int r]) (st1 := [.int r, .int r]) ⟨hx, hb, hml, hown, hts⟩ (kX10_lots l G ρ q a1 a2 a3 _ _ f2) (cu_V hts tw_5_220 tw_5_217 tw_5_218 tw_5_219 tw_1_4 hdX10_lots rfl rfl ⟨Nat.le_of_ble_eq_true rfl, Nat.le_of_ble_eq_true rfl⟩) hK hR hS rfl g2 rfl hl.1 rfl (Nat.le_of_ble_eq_true rfl) dL_law_1150 hcc rfl (fun H locs hR hS => ?_)
  refine lv_icmp_eq (tgt := 1558) hx hb dL_law_1153 (by decide) (fun _ => ?_) (fun c9 => absurd rfl c9)
  refine W.widen (k := cells + 1) (n := slots + 8) (by omega) (by omega) ?_
  exact kk _ _ _ _ _ hRel2 ⟨hR, hS⟩ (lv_sub hl [0, 1, 2, 3, 4] rfl)
set_option maxHeartbeats 4000000 in
set_option maxRecDepth 100000 in
theorem lc_image (C : LC p l s m c b L xs G) (sim : Sim_image Rel) (hRel : Rel ρ x q o) (hLS : LSt G s ρ z H locs) (hc : cells + 1 ≤ 601024) (hs : slots + 8 ≤ 7293033) (hi : vp_in (x4 + 1) L ∧ vp_in (x4 + 2) L ∧ vp_in (x4 + 3) L ∧ vp_in (x4 + 4) L ∧ vp_in (x4 + 5) L) (hl : lv_has ls 8 [(4, .int x4), (0, .ref b), (1, .ref x), (2, .ref q), (3, .ref o)])
    (kk : ∀ (ρ2 : Rho) (z2 : Nat) (H2 : Heap) (locs2 : List Loc) (ls2 : Array Slot), Rel ρ2 x q o → LSt G s ρ2 z2 H2 locs2 → lv_has ls2 8 [(4, .int x4), (0, .ref b), (1, .ref x), (2, .ref q), (3, .ref o)] → W p l e room_1 s m #[Value.ref b] below meth c H2 locs2 (cells + 1) (slots + 8) Q (F0 m 1558 ls2 [])) : W p l e room_1 s m #[Value.ref b] below meth c H locs cells slots Q (F0 m 1158 ls []) := by
  obtain ⟨hx, hb, hml, hown, hts, hK, hO, hX, hXs, hbl, hfl⟩ := C
  obtain ⟨hi1, hi2, hi3, hi4, hi5⟩ := hi
  have hlt := hLS.lt
  obtain ⟨hR, hS⟩ := hLS
  have hVS := hS.va
  have hbA : ¬ (fun y => s.heap.size ≤ y) b := Nat.not_le.mpr hbl
  have hcc : cells ≤ room_1.cells ∧ slots ≤ room_1.slots := ⟨Nat.le_trans (Nat.le_succ _) hc, Nat.le_trans (Nat.le_add_right _ _) hs⟩
  obtain ⟨ux, r, ρ1, um, ρ2, g1, f1, g2, f2, hRel2⟩ := sim ρ z x q o hRel hlt
  refine lv_aload_n hx hb dL_law_1158 rfl (lv_at hl 2 rfl) ?_
  refine aw_callV (As := []) (rest := []) (st1 := [.int r]) ⟨hx, hb, hml, hown, hts⟩ (kX9_image l G ρ x _ _ f1) (cu_V hts tw_3_153 tw_3_150 tw_3_151 tw_3_152 tw_1_1 hdX9_image rfl rfl ⟨Nat.le_of_ble_eq_true rfl, Nat.le_of_ble_eq_true rfl⟩) hK hR hS rfl g1 rfl hl.1 rfl (Nat.le_of_ble_eq_true rfl) dL_law_1159 hcc rfl (fun H locs hR hS => ?_)
  have hVS := hS.va
  refine lv_aload_n hx hb dL_law_1162 rfl (lv_at hl 3 rfl) ?_
  refine aw_callV (As := []) (rest := [.int r]) (st1 := [.int r, .int r]) ⟨hx, hb, hml, hown, hts⟩ (kX10_image l G ρ1 q _ _ f2) (cu_V hts tw_5_231 tw_5_228 tw_5_229 tw_5_230 tw_1_4 hdX10_image rfl rfl ⟨Nat.le_of_ble_eq_true rfl, Nat.le_of_ble_eq_true rfl⟩) hK hR hS rfl g2 rfl hl.1 rfl (Nat.le_of_ble_eq_true rfl) dL_law_1163 hcc rfl (fun H locs hR hS => ?_)
  refine lv_icmp_eq (tgt := 1558) hx hb dL_law_1166 (by decide) (fun _ => ?_) (fun c9 => absurd rfl c9)
  refine W.widen (k := cells + 1) (n := slots + 8) (by omega) (by omega) ?_
  exact kk _ _ _ _ _ hRel2 ⟨hR, hS⟩ (lv_sub hl [0, 1, 2, 3, 4] rfl)
set_option maxHeartbeats 4000000 in
set_option maxRecDepth 100000 in
theorem lc_restore (C : LC p l s m c b L xs G) (sim : Sim_restore Rel) (hRel : Rel ρ x q o) (hLS : LSt G s ρ z H locs) (hc : cells + 1 ≤ 601024) (hs : slots + 8 ≤ 7293033) (hi : vp_in (x4 + 1) L ∧ vp_in (x4 + 2) L ∧ vp_in (x4 + 3) L ∧ vp_in (x4 + 4) L ∧ vp_in (x4 + 5) L) (hl : lv_has ls 8 [(4, .int x4), (0, .ref b), (1, .ref x), (2, .ref q), (3, .ref o)])
    (kk : ∀ (ρ2 : Rho) (z2 : Nat) (H2 : Heap) (locs2 : List Loc) (ls2 : Array Slot), Rel ρ2 x q o → LSt G s ρ2 z2 H2 locs2 → lv_has ls2 8 [(4, .int x4), (0, .ref b), (1, .ref x), (2, .ref q), (3, .ref o)] → W p l e room_1 s m #[Value.ref b] below meth c H2 locs2 (cells + 1) (slots + 8) Q (F0 m 1558 ls2 [])) : W p l e room_1 s m #[Value.ref b] below meth c H locs cells slots Q (F0 m 1171 ls []) := by
  obtain ⟨hx, hb, hml, hown, hts, hK, hO, hX, hXs, hbl, hfl⟩ := C
  obtain ⟨hi1, hi2, hi3, hi4, hi5⟩ := hi
  have hlt := hLS.lt
  obtain ⟨hR, hS⟩ := hLS
  have hVS := hS.va
  have hbA : ¬ (fun y => s.heap.size ≤ y) b := Nat.not_le.mpr hbl
  have hcc : cells ≤ room_1.cells ∧ slots ≤ room_1.slots := ⟨Nat.le_trans (Nat.le_succ _) hc, Nat.le_trans (Nat.le_add_right _ _) hs⟩
  obtain ⟨ux, r, ρ1, um, ρ2, g1, f1, g2, f2, hRel2⟩ := sim ρ z x q o hRel hlt
  refine lv_aload_n hx hb dL_law_1171 rfl (lv_at hl 2 rfl) ?_
  refine aw_callV (As := []) (rest := []) (st1 := [.int r]) ⟨hx, hb, hml, hown, hts⟩ (kX9_restore l G ρ x _ _ f1) (cu_V hts tw_3_157 tw_3_154 tw_3_155 tw_3_156 tw_1_1 hdX9_restore rfl rfl ⟨Nat.le_of_ble_eq_true rfl, Nat.le_of_ble_eq_true rfl⟩) hK hR hS rfl g1 rfl hl.1 rfl (Nat.le_of_ble_eq_true rfl) dL_law_1172 hcc rfl (fun H locs hR hS => ?_)
  have hVS := hS.va
  refine lv_aload_n hx hb dL_law_1175 rfl (lv_at hl 3 rfl) ?_
  refine aw_callV (As := []) (rest := [.int r]) (st1 := [.int r, .int r]) ⟨hx, hb, hml, hown, hts⟩ (kX10_restore l G ρ1 q _ _ f2) (cu_V hts tw_5_235 tw_5_232 tw_5_233 tw_5_234 tw_1_4 hdX10_restore rfl rfl ⟨Nat.le_of_ble_eq_true rfl, Nat.le_of_ble_eq_true rfl⟩) hK hR hS rfl g2 rfl hl.1 rfl (Nat.le_of_ble_eq_true rfl) dL_law_1176 hcc rfl (fun H locs hR hS => ?_)
  refine lv_icmp_eq (tgt := 1558) hx hb dL_law_1179 (by decide) (fun _ => ?_) (fun c9 => absurd rfl c9)
  refine W.widen (k := cells + 1) (n := slots + 8) (by omega) (by omega) ?_
  exact kk _ _ _ _ _ hRel2 ⟨hR, hS⟩ (lv_sub hl [0, 1, 2, 3, 4] rfl)
set_option maxHeartbeats 4000000 in
set_option maxRecDepth 100000 in
theorem lc_count (C : LC p l s m c b L xs G) (sim : Sim_count Rel) (hRel : Rel ρ x q o) (hLS : LSt G s ρ z H locs) (hc : cells + 1 ≤ 601024) (hs : slots + 8 ≤ 7293033) (hi : vp_in (x4 + 1) L ∧ vp_in (x4 + 2) L ∧ vp_in (x4 + 3) L ∧ vp_in (x4 + 4) L ∧ vp_in (x4 + 5) L) (hl : lv_has ls 8 [(4, .int x4), (0, .ref b), (1, .ref x), (2, .ref q), (3, .ref o)])
    (kk : ∀ (ρ2 : Rho) (z2 : Nat) (H2 : Heap) (locs2 : List Loc) (ls2 : Array Slot), Rel ρ2 x q o → LSt G s ρ2 z2 H2 locs2 → lv_has ls2 8 [(4, .int x4), (0, .ref b), (1, .ref x), (2, .ref q), (3, .ref o)] → W p l e room_1 s m #[Value.ref b] below meth c H2 locs2 (cells + 1) (slots + 8) Q (F0 m 1558 ls2 [])) : W p l e room_1 s m #[Value.ref b] below meth c H locs cells slots Q (F0 m 1184 ls []) := by
  obtain ⟨hx, hb, hml, hown, hts, hK, hO, hX, hXs, hbl, hfl⟩ := C
  obtain ⟨hi1, hi2, hi3, hi4, hi5⟩ := hi
  have hlt := hLS.lt
  obtain ⟨hR, hS⟩ := hLS
  have hVS := hS.va
  have hbA : ¬ (fun y => s.heap.size ≤ y) b := Nat.not_le.mpr hbl
  have hcc : cells ≤ room_1.cells ∧ slots ≤ room_1.slots := ⟨Nat.le_trans (Nat.le_succ _) hc, Nat.le_trans (Nat.le_add_right _ _) hs⟩
  obtain ⟨a1, ha1⟩ : ∃ a, xs (x4 + 1).toNatClampNeg = a := ⟨_, rfl⟩
  obtain ⟨ux, r, um, g1, f1, g2, f2, hRel2⟩ := sim ρ z x q o a1 hRel hlt
  refine lv_aload_n hx hb dL_law_1184 rfl (lv_at hl 2 rfl) ?_
  refine lv_aload_n hx hb dL_law_1185 rfl (lv_at hl 1 rfl) ?_
  refine lv_iload hx hb dL_law_1186 (lv_at hl 0 rfl) ?_
  refine lv_iconst (v := 1) hx hb dL_law_1188 (by decide) ?_
  refine lv_iadd hx hb dL_law_1189 ?_
  refine s_ld hx hb hXs hbl hbA hVS hi1 (ha1) dL_law_1190 ?_
  refine r_callV (As := [.int a1]) (rest := []) (st1 := [.int r]) ⟨hx, hb, hml, hown, hts⟩ (kX9_count l G ρ x a1 _ f1) (cu_V hts tw_3_161 tw_3_158 tw_3_159 tw_3_160 tw_1_1 hdX9_count rfl rfl ⟨Nat.le_of_ble_eq_true rfl, Nat.le_of_ble_eq_true rfl⟩) hK hR rfl g1 rfl hl.1 rfl (Nat.le_of_ble_eq_true rfl) dL_law_1191 hcc rfl ?_
  refine lv_aload_n hx hb dL_law_1194 rfl (lv_at hl 3 rfl) ?_
  refine lv_aload_n hx hb dL_law_1195 rfl (lv_at hl 1 rfl) ?_
  refine lv_iload hx hb dL_law_1196 (lv_at hl 0 rfl) ?_
  refine lv_iconst (v := 1) hx hb dL_law_1198 (by decide) ?_
  refine lv_iadd hx hb dL_law_1199 ?_
  refine s_ld hx hb hXs hbl hbA hVS hi1 (ha1) dL_law_1200 ?_
  refine r_callV (As := [.int a1]) (rest := [.int r]) (st1 := [.int r, .int r]) ⟨hx, hb, hml, hown, hts⟩ (kX10_count l G ρ q a1 _ f2) (cu_V hts tw_5_239 tw_5_236 tw_5_237 tw_5_238 tw_1_4 hdX10_count rfl rfl ⟨Nat.le_of_ble_eq_true rfl, Nat.le_of_ble_eq_true rfl⟩) hK hR rfl g2 rfl hl.1 rfl (Nat.le_of_ble_eq_true rfl) dL_law_1201 hcc rfl ?_
  refine lv_icmp_eq (tgt := 1558) hx hb dL_law_1204 (by decide) (fun _ => ?_) (fun c9 => absurd rfl c9)
  refine W.widen (k := cells + 1) (n := slots + 8) (by omega) (by omega) ?_
  exact kk _ _ _ _ _ hRel2 ⟨hR, hS⟩ (lv_sub hl [0, 1, 2, 3, 4] rfl)
set_option maxHeartbeats 4000000 in
set_option maxRecDepth 100000 in
theorem lc_keep (C : LC p l s m c b L xs G) (sim : Sim_keep Rel) (hRel : Rel ρ x q o) (hLS : LSt G s ρ z H locs) (hc : cells + 1 ≤ 601024) (hs : slots + 8 ≤ 7293033) (hi : vp_in (x4 + 1) L ∧ vp_in (x4 + 2) L ∧ vp_in (x4 + 3) L ∧ vp_in (x4 + 4) L ∧ vp_in (x4 + 5) L) (hl : lv_has ls 8 [(4, .int x4), (0, .ref b), (1, .ref x), (2, .ref q), (3, .ref o)])
    (kk : ∀ (ρ2 : Rho) (z2 : Nat) (H2 : Heap) (locs2 : List Loc) (ls2 : Array Slot), Rel ρ2 x q o → LSt G s ρ2 z2 H2 locs2 → lv_has ls2 8 [(4, .int x4), (0, .ref b), (1, .ref x), (2, .ref q), (3, .ref o)] → W p l e room_1 s m #[Value.ref b] below meth c H2 locs2 (cells + 1) (slots + 8) Q (F0 m 1558 ls2 [])) : W p l e room_1 s m #[Value.ref b] below meth c H locs cells slots Q (F0 m 1209 ls []) := by
  obtain ⟨hx, hb, hml, hown, hts, hK, hO, hX, hXs, hbl, hfl⟩ := C
  obtain ⟨hi1, hi2, hi3, hi4, hi5⟩ := hi
  have hlt := hLS.lt
  obtain ⟨hR, hS⟩ := hLS
  have hVS := hS.va
  have hbA : ¬ (fun y => s.heap.size ≤ y) b := Nat.not_le.mpr hbl
  have hcc : cells ≤ room_1.cells ∧ slots ≤ room_1.slots := ⟨Nat.le_trans (Nat.le_succ _) hc, Nat.le_trans (Nat.le_add_right _ _) hs⟩
  obtain ⟨a1, ha1⟩ : ∃ a, xs (x4 + 1).toNatClampNeg = a := ⟨_, rfl⟩
  obtain ⟨a2, ha2⟩ : ∃ a, xs (x4 + 2).toNatClampNeg = a := ⟨_, rfl⟩
  obtain ⟨a3, ha3⟩ : ∃ a, xs (x4 + 3).toNatClampNeg = a := ⟨_, rfl⟩
  obtain ⟨a4, ha4⟩ : ∃ a, xs (x4 + 4).toNatClampNeg = a := ⟨_, rfl⟩
  obtain ⟨ux, r, ρ1, um, ρ2, g1, f1, g2, f2, hRel2⟩ := sim ρ z x q o a1 a2 a3 a4 hRel hlt
  refine lv_aload_n hx hb dL_law_1209 rfl (lv_at hl 2 rfl) ?_
  refine lv_aload_n hx hb dL_law_1210 rfl (lv_at hl 1 rfl) ?_
  refine lv_iload hx hb dL_law_1211 (lv_at hl 0 rfl) ?_
  refine lv_iconst (v := 1) hx hb dL_law_1213 (by decide) ?_
  refine lv_iadd hx hb dL_law_1214 ?_
  refine s_ld hx hb hXs hbl hbA hVS hi1 (ha1) dL_law_1215 ?_
  refine lv_aload_n hx hb dL_law_1216 rfl (lv_at hl 1 rfl) ?_
  refine lv_iload hx hb dL_law_1217 (lv_at hl 0 rfl) ?_
  refine lv_iconst (v := 2) hx hb dL_law_1219 (by decide) ?_
  refine lv_iadd hx hb dL_law_1220 ?_
  refine s_ld hx hb hXs hbl hbA hVS hi2 (ha2) dL_law_1221 ?_
  refine lv_aload_n hx hb dL_law_1222 rfl (lv_at hl 1 rfl) ?_
  refine lv_iload hx hb dL_law_1223 (lv_at hl 0 rfl) ?_
  refine lv_iconst (v := 3) hx hb dL_law_1225 (by decide) ?_
  refine lv_iadd hx hb dL_law_1226 ?_
  refine s_ld hx hb hXs hbl hbA hVS hi3 (ha3) dL_law_1227 ?_
  refine lv_aload_n hx hb dL_law_1228 rfl (lv_at hl 1 rfl) ?_
  refine lv_iload hx hb dL_law_1229 (lv_at hl 0 rfl) ?_
  refine lv_iconst (v := 4) hx hb dL_law_1231 (by decide) ?_
  refine lv_iadd hx hb dL_law_1232 ?_
  refine s_ld hx hb hXs hbl hbA hVS hi4 (ha4) dL_law_1233 ?_
  refine aw_callV (As := [.int a1, .int a2, .int a3, .int a4]) (rest := []) (st1 := [.int r]) ⟨hx, hb, hml, hown, hts⟩ (kX9_keep l G ρ x a1 a2 a3 a4 _ _ f1) (cu_V hts tw_3_170 tw_3_167 tw_3_168 tw_3_169 tw_1_1 hdX9_keep rfl rfl ⟨Nat.le_of_ble_eq_true rfl, Nat.le_of_ble_eq_true rfl⟩) hK hR hS rfl g1 rfl hl.1 rfl (Nat.le_of_ble_eq_true rfl) dL_law_1234 hcc rfl (fun H locs hR hS => ?_)
  have hVS := hS.va
  refine lv_aload_n hx hb dL_law_1237 rfl (lv_at hl 3 rfl) ?_
  refine lv_aload_n hx hb dL_law_1238 rfl (lv_at hl 1 rfl) ?_
  refine lv_iload hx hb dL_law_1239 (lv_at hl 0 rfl) ?_
  refine lv_iconst (v := 1) hx hb dL_law_1241 (by decide) ?_
  refine lv_iadd hx hb dL_law_1242 ?_
  refine s_ld hx hb hXs hbl hbA hVS hi1 (ha1) dL_law_1243 ?_
  refine lv_aload_n hx hb dL_law_1244 rfl (lv_at hl 1 rfl) ?_
  refine lv_iload hx hb dL_law_1245 (lv_at hl 0 rfl) ?_
  refine lv_iconst (v := 2) hx hb dL_law_1247 (by decide) ?_
  refine lv_iadd hx hb dL_law_1248 ?_
  refine s_ld hx hb hXs hbl hbA hVS hi2 (ha2) dL_law_1249 ?_
  refine lv_aload_n hx hb dL_law_1250 rfl (lv_at hl 1 rfl) ?_
  refine lv_iload hx hb dL_law_1251 (lv_at hl 0 rfl) ?_
  refine lv_iconst (v := 3) hx hb dL_law_1253 (by decide) ?_
  refine lv_iadd hx hb dL_law_1254 ?_
  refine s_ld hx hb hXs hbl hbA hVS hi3 (ha3) dL_law_1255 ?_
  refine lv_aload_n hx hb dL_law_1256 rfl (lv_at hl 1 rfl) ?_
  refine lv_iload hx hb dL_law_1257 (lv_at hl 0 rfl) ?_
  refine lv_iconst (v := 4) hx hb dL_law_1259 (by decide) ?_
  refine lv_iadd hx hb dL_law_1260 ?_
  refine s_ld hx hb hXs hbl hbA hVS hi4 (ha4) dL_law_1261 ?_
  refine aw_callV (As := [.int a1, .int a2, .int a3, .int a4]) (rest := [.int r]) (st1 := [.int r, .int r]) ⟨hx, hb, hml, hown, hts⟩ (kX10_keep l G ρ1 q a1 a2 a3 a4 _ _ f2) (cu_V hts tw_6_7 tw_6_4 tw_6_5 tw_6_6 tw_1_4 hdX10_keep rfl rfl ⟨Nat.le_of_ble_eq_true rfl, Nat.le_of_ble_eq_true rfl⟩) hK hR hS rfl g2 rfl hl.1 rfl (Nat.le_of_ble_eq_true rfl) dL_law_1262 hcc rfl (fun H locs hR hS => ?_)
  refine lv_icmp_eq (tgt := 1558) hx hb dL_law_1265 (by decide) (fun _ => ?_) (fun c9 => absurd rfl c9)
  refine W.widen (k := cells + 1) (n := slots + 8) (by omega) (by omega) ?_
  exact kk _ _ _ _ _ hRel2 ⟨hR, hS⟩ (lv_sub hl [0, 1, 2, 3, 4] rfl)
set_option maxHeartbeats 4000000 in
set_option maxRecDepth 100000 in
theorem lc_row (C : LC p l s m c b L xs G) (sim : Sim_row Rel) (hRel : Rel ρ x q o) (hLS : LSt G s ρ z H locs) (hc : cells + 1 ≤ 601024) (hs : slots + 8 ≤ 7293033) (hi : vp_in (x4 + 1) L ∧ vp_in (x4 + 2) L ∧ vp_in (x4 + 3) L ∧ vp_in (x4 + 4) L ∧ vp_in (x4 + 5) L) (hl : lv_has ls 8 [(4, .int x4), (0, .ref b), (1, .ref x), (2, .ref q), (3, .ref o)])
    (kk : ∀ (ρ2 : Rho) (z2 : Nat) (H2 : Heap) (locs2 : List Loc) (ls2 : Array Slot), Rel ρ2 x q o → LSt G s ρ2 z2 H2 locs2 → lv_has ls2 8 [(4, .int x4), (0, .ref b), (1, .ref x), (2, .ref q), (3, .ref o)] → W p l e room_1 s m #[Value.ref b] below meth c H2 locs2 (cells + 1) (slots + 8) Q (F0 m 1558 ls2 [])) : W p l e room_1 s m #[Value.ref b] below meth c H locs cells slots Q (F0 m 1270 ls []) := by
  obtain ⟨hx, hb, hml, hown, hts, hK, hO, hX, hXs, hbl, hfl⟩ := C
  obtain ⟨hi1, hi2, hi3, hi4, hi5⟩ := hi
  have hlt := hLS.lt
  obtain ⟨hR, hS⟩ := hLS
  have hVS := hS.va
  have hbA : ¬ (fun y => s.heap.size ≤ y) b := Nat.not_le.mpr hbl
  have hcc : cells ≤ room_1.cells ∧ slots ≤ room_1.slots := ⟨Nat.le_trans (Nat.le_succ _) hc, Nat.le_trans (Nat.le_add_right _ _) hs⟩
  obtain ⟨a1, ha1⟩ : ∃ a, xs (x4 + 1).toNatClampNeg = a := ⟨_, rfl⟩
  obtain ⟨a2, ha2⟩ : ∃ a, xs (x4 + 2).toNatClampNeg = a := ⟨_, rfl⟩
  obtain ⟨a3, ha3⟩ : ∃ a, xs (x4 + 3).toNatClampNeg = a := ⟨_, rfl⟩
  obtain ⟨ux, r, ρ1, um, ρ2, g1, f1, g2, f2, hRel2⟩ := sim ρ z x q o a1 a2 a3 hRel hlt
  refine lv_aload_n hx hb dL_law_1270 rfl (lv_at hl 2 rfl) ?_
  refine lv_aload_n hx hb dL_law_1271 rfl (lv_at hl 1 rfl) ?_
  refine lv_iload hx hb dL_law_1272 (lv_at hl 0 rfl) ?_
  refine lv_iconst (v := 1) hx hb dL_law_1274 (by decide) ?_
  refine lv_iadd hx hb dL_law_1275 ?_
  refine s_ld hx hb hXs hbl hbA hVS hi1 (ha1) dL_law_1276 ?_
  refine lv_aload_n hx hb dL_law_1277 rfl (lv_at hl 1 rfl) ?_
  refine lv_iload hx hb dL_law_1278 (lv_at hl 0 rfl) ?_
  refine lv_iconst (v := 2) hx hb dL_law_1280 (by decide) ?_
  refine lv_iadd hx hb dL_law_1281 ?_
  refine s_ld hx hb hXs hbl hbA hVS hi2 (ha2) dL_law_1282 ?_
  refine lv_aload_n hx hb dL_law_1283 rfl (lv_at hl 1 rfl) ?_
  refine lv_iload hx hb dL_law_1284 (lv_at hl 0 rfl) ?_
  refine lv_iconst (v := 3) hx hb dL_law_1286 (by decide) ?_
  refine lv_iadd hx hb dL_law_1287 ?_
  refine s_ld hx hb hXs hbl hbA hVS hi3 (ha3) dL_law_1288 ?_
  refine aw_callV (As := [.int a1, .int a2, .int a3]) (rest := []) (st1 := [.int r]) ⟨hx, hb, hml, hown, hts⟩ (kX9_row l G ρ x a1 a2 a3 _ _ f1) (cu_V hts tw_3_183 tw_3_180 tw_3_181 tw_3_182 tw_1_1 hdX9_row rfl rfl ⟨Nat.le_of_ble_eq_true rfl, Nat.le_of_ble_eq_true rfl⟩) hK hR hS rfl g1 rfl hl.1 rfl (Nat.le_of_ble_eq_true rfl) dL_law_1289 hcc rfl (fun H locs hR hS => ?_)
  have hVS := hS.va
  refine lv_aload_n hx hb dL_law_1292 rfl (lv_at hl 3 rfl) ?_
  refine lv_aload_n hx hb dL_law_1293 rfl (lv_at hl 1 rfl) ?_
  refine lv_iload hx hb dL_law_1294 (lv_at hl 0 rfl) ?_
  refine lv_iconst (v := 1) hx hb dL_law_1296 (by decide) ?_
  refine lv_iadd hx hb dL_law_1297 ?_
  refine s_ld hx hb hXs hbl hbA hVS hi1 (ha1) dL_law_1298 ?_
  refine lv_aload_n hx hb dL_law_1299 rfl (lv_at hl 1 rfl) ?_
  refine lv_iload hx hb dL_law_1300 (lv_at hl 0 rfl) ?_
  refine lv_iconst (v := 2) hx hb dL_law_1302 (by decide) ?_
  refine lv_iadd hx hb dL_law_1303 ?_
  refine s_ld hx hb hXs hbl hbA hVS hi2 (ha2) dL_law_1304 ?_
  refine lv_aload_n hx hb dL_law_1305 rfl (lv_at hl 1 rfl) ?_
  refine lv_iload hx hb dL_law_1306 (lv_at hl 0 rfl) ?_
  refine lv_iconst (v := 3) hx hb dL_law_1308 (by decide) ?_
  refine lv_iadd hx hb dL_law_1309 ?_
  refine s_ld hx hb hXs hbl hbA hVS hi3 (ha3) dL_law_1310 ?_
  refine aw_callV (As := [.int a1, .int a2, .int a3]) (rest := [.int r]) (st1 := [.int r, .int r]) ⟨hx, hb, hml, hown, hts⟩ (kX10_row l G ρ1 q a1 a2 a3 _ _ f2) (cu_V hts tw_6_11 tw_6_8 tw_6_9 tw_6_10 tw_1_4 hdX10_row rfl rfl ⟨Nat.le_of_ble_eq_true rfl, Nat.le_of_ble_eq_true rfl⟩) hK hR hS rfl g2 rfl hl.1 rfl (Nat.le_of_ble_eq_true rfl) dL_law_1311 hcc rfl (fun H locs hR hS => ?_)
  refine lv_icmp_eq (tgt := 1558) hx hb dL_law_1314 (by decide) (fun _ => ?_) (fun c9 => absurd rfl c9)
  refine W.widen (k := cells + 1) (n := slots + 8) (by omega) (by omega) ?_
  exact kk _ _ _ _ _ hRel2 ⟨hR, hS⟩ (lv_sub hl [0, 1, 2, 3, 4] rfl)
set_option maxHeartbeats 4000000 in
set_option maxRecDepth 100000 in
theorem lc_put (C : LC p l s m c b L xs G) (sim : Sim_put Rel) (hRel : Rel ρ x q o) (hLS : LSt G s ρ z H locs) (hc : cells + 1 ≤ 601024) (hs : slots + 8 ≤ 7293033) (hi : vp_in (x4 + 1) L ∧ vp_in (x4 + 2) L ∧ vp_in (x4 + 3) L ∧ vp_in (x4 + 4) L ∧ vp_in (x4 + 5) L) (hl : lv_has ls 8 [(4, .int x4), (0, .ref b), (1, .ref x), (2, .ref q), (3, .ref o)])
    (kk : ∀ (ρ2 : Rho) (z2 : Nat) (H2 : Heap) (locs2 : List Loc) (ls2 : Array Slot), Rel ρ2 x q o → LSt G s ρ2 z2 H2 locs2 → lv_has ls2 8 [(4, .int x4), (0, .ref b), (1, .ref x), (2, .ref q), (3, .ref o)] → W p l e room_1 s m #[Value.ref b] below meth c H2 locs2 (cells + 1) (slots + 8) Q (F0 m 1558 ls2 [])) : W p l e room_1 s m #[Value.ref b] below meth c H locs cells slots Q (F0 m 1319 ls []) := by
  obtain ⟨hx, hb, hml, hown, hts, hK, hO, hX, hXs, hbl, hfl⟩ := C
  obtain ⟨hi1, hi2, hi3, hi4, hi5⟩ := hi
  have hlt := hLS.lt
  obtain ⟨hR, hS⟩ := hLS
  have hVS := hS.va
  have hbA : ¬ (fun y => s.heap.size ≤ y) b := Nat.not_le.mpr hbl
  have hcc : cells ≤ room_1.cells ∧ slots ≤ room_1.slots := ⟨Nat.le_trans (Nat.le_succ _) hc, Nat.le_trans (Nat.le_add_right _ _) hs⟩
  obtain ⟨a1, ha1⟩ : ∃ a, xs (x4 + 1).toNatClampNeg = a := ⟨_, rfl⟩
  obtain ⟨a2, ha2⟩ : ∃ a, xs (x4 + 2).toNatClampNeg = a := ⟨_, rfl⟩
  obtain ⟨a3, ha3⟩ : ∃ a, xs (x4 + 3).toNatClampNeg = a := ⟨_, rfl⟩
  obtain ⟨ux, r, ρ1, um, ρ2, g1, f1, g2, f2, hRel2⟩ := sim ρ z x q o a1 a2 a3 hRel hlt
  refine lv_aload_n hx hb dL_law_1319 rfl (lv_at hl 2 rfl) ?_
  refine lv_aload_n hx hb dL_law_1320 rfl (lv_at hl 1 rfl) ?_
  refine lv_iload hx hb dL_law_1321 (lv_at hl 0 rfl) ?_
  refine lv_iconst (v := 1) hx hb dL_law_1323 (by decide) ?_
  refine lv_iadd hx hb dL_law_1324 ?_
  refine s_ld hx hb hXs hbl hbA hVS hi1 (ha1) dL_law_1325 ?_
  refine lv_aload_n hx hb dL_law_1326 rfl (lv_at hl 1 rfl) ?_
  refine lv_iload hx hb dL_law_1327 (lv_at hl 0 rfl) ?_
  refine lv_iconst (v := 2) hx hb dL_law_1329 (by decide) ?_
  refine lv_iadd hx hb dL_law_1330 ?_
  refine s_ld hx hb hXs hbl hbA hVS hi2 (ha2) dL_law_1331 ?_
  refine lv_aload_n hx hb dL_law_1332 rfl (lv_at hl 1 rfl) ?_
  refine lv_iload hx hb dL_law_1333 (lv_at hl 0 rfl) ?_
  refine lv_iconst (v := 3) hx hb dL_law_1335 (by decide) ?_
  refine lv_iadd hx hb dL_law_1336 ?_
  refine s_ld hx hb hXs hbl hbA hVS hi3 (ha3) dL_law_1337 ?_
  refine aw_callV (As := [.int a1, .int a2, .int a3]) (rest := []) (st1 := [.int r]) ⟨hx, hb, hml, hown, hts⟩ (kX9_put l G ρ x a1 a2 a3 _ _ f1) (cu_V hts tw_3_194 tw_3_191 tw_3_192 tw_3_193 tw_1_1 hdX9_put rfl rfl ⟨Nat.le_of_ble_eq_true rfl, Nat.le_of_ble_eq_true rfl⟩) hK hR hS rfl g1 rfl hl.1 rfl (Nat.le_of_ble_eq_true rfl) dL_law_1338 hcc rfl (fun H locs hR hS => ?_)
  have hVS := hS.va
  refine lv_aload_n hx hb dL_law_1341 rfl (lv_at hl 3 rfl) ?_
  refine lv_aload_n hx hb dL_law_1342 rfl (lv_at hl 1 rfl) ?_
  refine lv_iload hx hb dL_law_1343 (lv_at hl 0 rfl) ?_
  refine lv_iconst (v := 1) hx hb dL_law_1345 (by decide) ?_
  refine lv_iadd hx hb dL_law_1346 ?_
  refine s_ld hx hb hXs hbl hbA hVS hi1 (ha1) dL_law_1347 ?_
  refine lv_aload_n hx hb dL_law_1348 rfl (lv_at hl 1 rfl) ?_
  refine lv_iload hx hb dL_law_1349 (lv_at hl 0 rfl) ?_
  refine lv_iconst (v := 2) hx hb dL_law_1351 (by decide) ?_
  refine lv_iadd hx hb dL_law_1352 ?_
  refine s_ld hx hb hXs hbl hbA hVS hi2 (ha2) dL_law_1353 ?_
  refine lv_aload_n hx hb dL_law_1354 rfl (lv_at hl 1 rfl) ?_
  refine lv_iload hx hb dL_law_1355 (lv_at hl 0 rfl) ?_
  refine lv_iconst (v := 3) hx hb dL_law_1357 (by decide) ?_
  refine lv_iadd hx hb dL_law_1358 ?_
  refine s_ld hx hb hXs hbl hbA hVS hi3 (ha3) dL_law_1359 ?_
  refine aw_callV (As := [.int a1, .int a2, .int a3]) (rest := [.int r]) (st1 := [.int r, .int r]) ⟨hx, hb, hml, hown, hts⟩ (kX10_put l G ρ1 q a1 a2 a3 _ _ f2) (cu_V hts tw_6_15 tw_6_12 tw_6_13 tw_6_14 tw_1_4 hdX10_put rfl rfl ⟨Nat.le_of_ble_eq_true rfl, Nat.le_of_ble_eq_true rfl⟩) hK hR hS rfl g2 rfl hl.1 rfl (Nat.le_of_ble_eq_true rfl) dL_law_1360 hcc rfl (fun H locs hR hS => ?_)
  refine lv_icmp_eq (tgt := 1558) hx hb dL_law_1363 (by decide) (fun _ => ?_) (fun c9 => absurd rfl c9)
  refine W.widen (k := cells + 1) (n := slots + 8) (by omega) (by omega) ?_
  exact kk _ _ _ _ _ hRel2 ⟨hR, hS⟩ (lv_sub hl [0, 1, 2, 3, 4] rfl)
set_option maxHeartbeats 4000000 in
set_option maxRecDepth 100000 in
theorem lc_element (C : LC p l s m c b L xs G) (sim : Sim_element Rel) (hRel : Rel ρ x q o) (hLS : LSt G s ρ z H locs) (hc : cells + 1 ≤ 601024) (hs : slots + 8 ≤ 7293033) (hi : vp_in (x4 + 1) L ∧ vp_in (x4 + 2) L ∧ vp_in (x4 + 3) L ∧ vp_in (x4 + 4) L ∧ vp_in (x4 + 5) L) (hl : lv_has ls 8 [(4, .int x4), (0, .ref b), (1, .ref x), (2, .ref q), (3, .ref o)])
    (kk : ∀ (ρ2 : Rho) (z2 : Nat) (H2 : Heap) (locs2 : List Loc) (ls2 : Array Slot), Rel ρ2 x q o → LSt G s ρ2 z2 H2 locs2 → lv_has ls2 8 [(4, .int x4), (0, .ref b), (1, .ref x), (2, .ref q), (3, .ref o)] → W p l e room_1 s m #[Value.ref b] below meth c H2 locs2 (cells + 1) (slots + 8) Q (F0 m 1558 ls2 [])) : W p l e room_1 s m #[Value.ref b] below meth c H locs cells slots Q (F0 m 1368 ls []) := by
  obtain ⟨hx, hb, hml, hown, hts, hK, hO, hX, hXs, hbl, hfl⟩ := C
  obtain ⟨hi1, hi2, hi3, hi4, hi5⟩ := hi
  have hlt := hLS.lt
  obtain ⟨hR, hS⟩ := hLS
  have hVS := hS.va
  have hbA : ¬ (fun y => s.heap.size ≤ y) b := Nat.not_le.mpr hbl
  have hcc : cells ≤ room_1.cells ∧ slots ≤ room_1.slots := ⟨Nat.le_trans (Nat.le_succ _) hc, Nat.le_trans (Nat.le_add_right _ _) hs⟩
  have hcc2 : cells + 1 ≤ room_1.cells ∧ slots + 6 ≤ room_1.slots := ⟨hc, Nat.le_trans (Nat.add_le_add_left (by decide : 6 ≤ 8) slots) hs⟩
  obtain ⟨a1, ha1⟩ : ∃ a, xs (x4 + 1).toNatClampNeg = a := ⟨_, rfl⟩
  obtain ⟨a2, ha2⟩ : ∃ a, xs (x4 + 2).toNatClampNeg = a := ⟨_, rfl⟩
  obtain ⟨r, ρ1, u, bb, ρ2, u2, f1, g2, f2, g3, f3, hbb, hRel2⟩ := sim ρ z x q o a1 a2 hRel hlt
  refine lv_aload_n hx hb dL_law_1368 rfl (lv_at hl 2 rfl) ?_
  refine lv_aload_n hx hb dL_law_1369 rfl (lv_at hl 1 rfl) ?_
  refine lv_iload hx hb dL_law_1370 (lv_at hl 0 rfl) ?_
  refine lv_iconst (v := 1) hx hb dL_law_1372 (by decide) ?_
  refine lv_iadd hx hb dL_law_1373 ?_
  refine s_ld hx hb hXs hbl hbA hVS hi1 (ha1) dL_law_1374 ?_
  refine lv_aload_n hx hb dL_law_1375 rfl (lv_at hl 1 rfl) ?_
  refine lv_iload hx hb dL_law_1376 (lv_at hl 0 rfl) ?_
  refine lv_iconst (v := 2) hx hb dL_law_1378 (by decide) ?_
  refine lv_iadd hx hb dL_law_1379 ?_
  refine s_ld hx hb hXs hbl hbA hVS hi2 (ha2) dL_law_1380 ?_
  refine lv_aload_n hx hb dL_law_1381 rfl (lv_at hl 4 rfl) ?_
  refine f_run (z := z) (rest := []) (st1 := [.int r]) (vx_runSW (As := [.ref x, .int a1, .int a2, .ref o]) ⟨hx, hb, hml, hown, hts⟩ (kL_element l hfl G ρ s.heap.size x a1 a2 o r ρ1 f1) (cu_SW hts cw_element tw_4_88 tw_4_89 tw_1_0 hdL_element rfl rfl ⟨Nat.le_of_ble_eq_true rfl, Nat.le_of_ble_eq_true rfl⟩) ⟨PcX_blind G ρ s.heap.size _, fun U hU hW => x_pre hK (by rw [hU]; exact hR) hX (fun y hy _ => by rw [hU]; exact hS.2.2.1 y hy rfl) _ hW⟩ rfl rfl hl.1 rfl (lv_room (rest := [.ref o, .int a2, .int a1, .ref x]) (ls := ls) (pc := 1382) (m := m) (Nat.le_of_ble_eq_true rfl)) dL_law_1382 ⟨hc, Nat.le_trans (Nat.add_le_add_left (by decide : 6 ≤ 8) slots) hs⟩) hS rfl (fun z H locs hR hS => ?_)
  have hVS := hS.va
  refine lv_istore (lv' := [(5, .int r), (4, .int x4), (0, .ref b), (1, .ref x), (2, .ref q), (3, .ref o)]) hx hb dL_law_1385 hl (by decide) rfl (fun ls hl => ?_)
  refine lv_aload_n hx hb dL_law_1387 rfl (lv_at hl 4 rfl) ?_
  refine lv_aload_n hx hb dL_law_1388 rfl (lv_at hl 2 rfl) ?_
  refine lv_iload hx hb dL_law_1389 (lv_at hl 1 rfl) ?_
  refine lv_iconst (v := 1) hx hb dL_law_1391 (by decide) ?_
  refine lv_iadd hx hb dL_law_1392 ?_
  refine s_ld hx hb hXs hbl hbA hVS hi1 (ha1) dL_law_1393 ?_
  refine lv_aload_n hx hb dL_law_1394 rfl (lv_at hl 2 rfl) ?_
  refine lv_iload hx hb dL_law_1395 (lv_at hl 1 rfl) ?_
  refine lv_iconst (v := 2) hx hb dL_law_1397 (by decide) ?_
  refine lv_iadd hx hb dL_law_1398 ?_
  refine s_ld hx hb hXs hbl hbA hVS hi2 (ha2) dL_law_1399 ?_
  refine aw_callV (As := [.int a1, .int a2]) (rest := []) (st1 := [.long bb]) ⟨hx, hb, hml, hown, hts⟩ (kX10_element l G ρ1 q a1 a2 _ _ f2) (cu_V hts tw_6_19 tw_6_16 tw_6_17 tw_6_18 tw_1_4 hdX10_element rfl rfl ⟨Nat.le_of_ble_eq_true rfl, Nat.le_of_ble_eq_true rfl⟩) hK hR hS rfl g2 rfl hl.1 rfl (Nat.le_of_ble_eq_true rfl) dL_law_1400 hcc2 rfl (fun H locs hR hS => ?_)
  refine lv_lstore (lv' := [(6, .long bb), (5, .int r), (4, .int x4), (0, .ref b), (1, .ref x), (2, .ref q), (3, .ref o)]) hx hb dL_law_1403 hl (by decide) rfl (fun ls hl => ?_)
  refine lv_aload_n hx hb dL_law_1405 rfl (lv_at hl 5 rfl) ?_
  refine r_callV (As := []) (rest := []) (st1 := [.int r]) ⟨hx, hb, hml, hown, hts⟩ (kX10_thrown l G ρ2 q _ f3) (cu_V hts tw_6_3 tw_6_0 tw_6_1 tw_6_2 tw_1_4 hdX10_thrown rfl rfl ⟨Nat.le_of_ble_eq_true rfl, Nat.le_of_ble_eq_true rfl⟩) hK hR rfl g3 rfl hl.1 rfl (Nat.le_of_ble_eq_true rfl) dL_law_1406 hcc2 rfl ?_
  refine lv_iload hx hb dL_law_1409 (lv_at hl 1 rfl) ?_
  refine lv_icmp_eq (tgt := 1416) hx hb dL_law_1411 (by decide) (fun _ => ?_) (fun c9 => absurd rfl c9)
  refine lv_iload hx hb dL_law_1416 (lv_at hl 1 rfl) ?_
  refine lv_if_ne (tgt := 1432) hx hb dL_law_1418 (by decide) (fun c2 => ?_) (fun c2 => ?_)
  · refine lv_goto (tgt := 1558) hx hb dL_law_1432 (by decide) ?_
    refine W.widen (k := cells + 1) (n := slots + 8) (by omega) (by omega) ?_
    exact kk _ _ _ _ _ hRel2 ⟨hR, hS⟩ (lv_sub hl [2, 3, 4, 5, 6] rfl)
  refine lv_aload_n hx hb dL_law_1421 rfl (lv_at hl 6 rfl) ?_
  refine lv_iconst (v := 0) hx hb dL_law_1422 (by decide) ?_
  refine r_ldL hx hb hK hR (hbb c2) dL_law_1423 ?_
  refine lv_lload hx hb dL_law_1424 (lv_at hl 0 rfl) ?_
  refine W.lcmp hx hb dL_law_1426 ?_
  refine lv_if_eq (tgt := 1432) hx hb dL_law_1427 (by decide) (fun _ => ?_) (fun c9 => absurd (lg_cmp_self _) c9)
  refine lv_goto (tgt := 1558) hx hb dL_law_1432 (by decide) ?_
  refine W.widen (k := cells + 1) (n := slots + 8) (by omega) (by omega) ?_
  exact kk _ _ _ _ _ hRel2 ⟨hR, hS⟩ (lv_sub hl [2, 3, 4, 5, 6] rfl)
set_option maxHeartbeats 4000000 in
set_option maxRecDepth 100000 in
theorem lc_copy (C : LC p l s m c b L xs G) (sim : Sim_copy Rel) (hRel : Rel ρ x q o) (hLS : LSt G s ρ z H locs) (hc : cells + 1 ≤ 601024) (hs : slots + 8 ≤ 7293033) (hi : vp_in (x4 + 1) L ∧ vp_in (x4 + 2) L ∧ vp_in (x4 + 3) L ∧ vp_in (x4 + 4) L ∧ vp_in (x4 + 5) L) (hl : lv_has ls 8 [(4, .int x4), (0, .ref b), (1, .ref x), (2, .ref q), (3, .ref o)])
    (kk : ∀ (ρ2 : Rho) (z2 : Nat) (H2 : Heap) (locs2 : List Loc) (ls2 : Array Slot), Rel ρ2 x q o → LSt G s ρ2 z2 H2 locs2 → lv_has ls2 8 [(4, .int x4), (0, .ref b), (1, .ref x), (2, .ref q), (3, .ref o)] → W p l e room_1 s m #[Value.ref b] below meth c H2 locs2 (cells + 1) (slots + 8) Q (F0 m 1558 ls2 [])) : W p l e room_1 s m #[Value.ref b] below meth c H locs cells slots Q (F0 m 1435 ls []) := by
  obtain ⟨hx, hb, hml, hown, hts, hK, hO, hX, hXs, hbl, hfl⟩ := C
  obtain ⟨hi1, hi2, hi3, hi4, hi5⟩ := hi
  have hlt := hLS.lt
  obtain ⟨hR, hS⟩ := hLS
  have hVS := hS.va
  have hbA : ¬ (fun y => s.heap.size ≤ y) b := Nat.not_le.mpr hbl
  have hcc : cells ≤ room_1.cells ∧ slots ≤ room_1.slots := ⟨Nat.le_trans (Nat.le_succ _) hc, Nat.le_trans (Nat.le_add_right _ _) hs⟩
  obtain ⟨a1, ha1⟩ : ∃ a, xs (x4 + 1).toNatClampNeg = a := ⟨_, rfl⟩
  obtain ⟨a2, ha2⟩ : ∃ a, xs (x4 + 2).toNatClampNeg = a := ⟨_, rfl⟩
  obtain ⟨a3, ha3⟩ : ∃ a, xs (x4 + 3).toNatClampNeg = a := ⟨_, rfl⟩
  obtain ⟨a4, ha4⟩ : ∃ a, xs (x4 + 4).toNatClampNeg = a := ⟨_, rfl⟩
  obtain ⟨a5, ha5⟩ : ∃ a, xs (x4 + 5).toNatClampNeg = a := ⟨_, rfl⟩
  obtain ⟨ux, r, ρ1, um, ρ2, g1, f1, g2, f2, hRel2⟩ := sim ρ z x q o a1 a2 a3 a4 a5 hRel hlt
  refine lv_aload_n hx hb dL_law_1435 rfl (lv_at hl 2 rfl) ?_
  refine lv_aload_n hx hb dL_law_1436 rfl (lv_at hl 1 rfl) ?_
  refine lv_iload hx hb dL_law_1437 (lv_at hl 0 rfl) ?_
  refine lv_iconst (v := 1) hx hb dL_law_1439 (by decide) ?_
  refine lv_iadd hx hb dL_law_1440 ?_
  refine s_ld hx hb hXs hbl hbA hVS hi1 (ha1) dL_law_1441 ?_
  refine lv_aload_n hx hb dL_law_1442 rfl (lv_at hl 1 rfl) ?_
  refine lv_iload hx hb dL_law_1443 (lv_at hl 0 rfl) ?_
  refine lv_iconst (v := 2) hx hb dL_law_1445 (by decide) ?_
  refine lv_iadd hx hb dL_law_1446 ?_
  refine s_ld hx hb hXs hbl hbA hVS hi2 (ha2) dL_law_1447 ?_
  refine lv_aload_n hx hb dL_law_1448 rfl (lv_at hl 1 rfl) ?_
  refine lv_iload hx hb dL_law_1449 (lv_at hl 0 rfl) ?_
  refine lv_iconst (v := 3) hx hb dL_law_1451 (by decide) ?_
  refine lv_iadd hx hb dL_law_1452 ?_
  refine s_ld hx hb hXs hbl hbA hVS hi3 (ha3) dL_law_1453 ?_
  refine lv_aload_n hx hb dL_law_1454 rfl (lv_at hl 1 rfl) ?_
  refine lv_iload hx hb dL_law_1455 (lv_at hl 0 rfl) ?_
  refine lv_iconst (v := 4) hx hb dL_law_1457 (by decide) ?_
  refine lv_iadd hx hb dL_law_1458 ?_
  refine s_ld hx hb hXs hbl hbA hVS hi4 (ha4) dL_law_1459 ?_
  refine lv_aload_n hx hb dL_law_1460 rfl (lv_at hl 1 rfl) ?_
  refine lv_iload hx hb dL_law_1461 (lv_at hl 0 rfl) ?_
  refine lv_iconst (v := 5) hx hb dL_law_1463 (by decide) ?_
  refine lv_iadd hx hb dL_law_1464 ?_
  refine s_ld hx hb hXs hbl hbA hVS hi5 (ha5) dL_law_1465 ?_
  refine aw_callV (As := [.int a1, .int a2, .int a3, .int a4, .int a5]) (rest := []) (st1 := [.int r]) ⟨hx, hb, hml, hown, hts⟩ (kX9_copy l G ρ x a1 a2 a3 a4 a5 _ _ f1) (cu_V hts tw_3_203 tw_3_200 tw_3_201 tw_3_202 tw_1_1 hdX9_copy rfl rfl ⟨Nat.le_of_ble_eq_true rfl, Nat.le_of_ble_eq_true rfl⟩) hK hR hS rfl g1 rfl hl.1 rfl (Nat.le_of_ble_eq_true rfl) dL_law_1466 hcc rfl (fun H locs hR hS => ?_)
  have hVS := hS.va
  refine lv_aload_n hx hb dL_law_1469 rfl (lv_at hl 3 rfl) ?_
  refine lv_aload_n hx hb dL_law_1470 rfl (lv_at hl 1 rfl) ?_
  refine lv_iload hx hb dL_law_1471 (lv_at hl 0 rfl) ?_
  refine lv_iconst (v := 1) hx hb dL_law_1473 (by decide) ?_
  refine lv_iadd hx hb dL_law_1474 ?_
  refine s_ld hx hb hXs hbl hbA hVS hi1 (ha1) dL_law_1475 ?_
  refine lv_aload_n hx hb dL_law_1476 rfl (lv_at hl 1 rfl) ?_
  refine lv_iload hx hb dL_law_1477 (lv_at hl 0 rfl) ?_
  refine lv_iconst (v := 2) hx hb dL_law_1479 (by decide) ?_
  refine lv_iadd hx hb dL_law_1480 ?_
  refine s_ld hx hb hXs hbl hbA hVS hi2 (ha2) dL_law_1481 ?_
  refine lv_aload_n hx hb dL_law_1482 rfl (lv_at hl 1 rfl) ?_
  refine lv_iload hx hb dL_law_1483 (lv_at hl 0 rfl) ?_
  refine lv_iconst (v := 3) hx hb dL_law_1485 (by decide) ?_
  refine lv_iadd hx hb dL_law_1486 ?_
  refine s_ld hx hb hXs hbl hbA hVS hi3 (ha3) dL_law_1487 ?_
  refine lv_aload_n hx hb dL_law_1488 rfl (lv_at hl 1 rfl) ?_
  refine lv_iload hx hb dL_law_1489 (lv_at hl 0 rfl) ?_
  refine lv_iconst (v := 4) hx hb dL_law_1491 (by decide) ?_
  refine lv_iadd hx hb dL_law_1492 ?_
  refine s_ld hx hb hXs hbl hbA hVS hi4 (ha4) dL_law_1493 ?_
  refine lv_aload_n hx hb dL_law_1494 rfl (lv_at hl 1 rfl) ?_
  refine lv_iload hx hb dL_law_1495 (lv_at hl 0 rfl) ?_
  refine lv_iconst (v := 5) hx hb dL_law_1497 (by decide) ?_
  refine lv_iadd hx hb dL_law_1498 ?_
  refine s_ld hx hb hXs hbl hbA hVS hi5 (ha5) dL_law_1499 ?_
  refine aw_callV (As := [.int a1, .int a2, .int a3, .int a4, .int a5]) (rest := [.int r]) (st1 := [.int r, .int r]) ⟨hx, hb, hml, hown, hts⟩ (kX10_copy l G ρ1 q a1 a2 a3 a4 a5 _ _ f2) (cu_V hts tw_6_23 tw_6_20 tw_6_21 tw_6_22 tw_1_4 hdX10_copy rfl rfl ⟨Nat.le_of_ble_eq_true rfl, Nat.le_of_ble_eq_true rfl⟩) hK hR hS rfl g2 rfl hl.1 rfl (Nat.le_of_ble_eq_true rfl) dL_law_1500 hcc rfl (fun H locs hR hS => ?_)
  refine lv_icmp_eq (tgt := 1558) hx hb dL_law_1503 (by decide) (fun _ => ?_) (fun c9 => absurd rfl c9)
  refine W.widen (k := cells + 1) (n := slots + 8) (by omega) (by omega) ?_
  exact kk _ _ _ _ _ hRel2 ⟨hR, hS⟩ (lv_sub hl [0, 1, 2, 3, 4] rfl)
set_option maxHeartbeats 4000000 in
set_option maxRecDepth 100000 in
theorem lc_cost (C : LC p l s m c b L xs G) (sim : Sim_cost Rel) (hRel : Rel ρ x q o) (hLS : LSt G s ρ z H locs) (hc : cells + 1 ≤ 601024) (hs : slots + 8 ≤ 7293033) (hi : vp_in (x4 + 1) L ∧ vp_in (x4 + 2) L ∧ vp_in (x4 + 3) L ∧ vp_in (x4 + 4) L ∧ vp_in (x4 + 5) L) (hl : lv_has ls 8 [(4, .int x4), (0, .ref b), (1, .ref x), (2, .ref q), (3, .ref o)])
    (kk : ∀ (ρ2 : Rho) (z2 : Nat) (H2 : Heap) (locs2 : List Loc) (ls2 : Array Slot), Rel ρ2 x q o → LSt G s ρ2 z2 H2 locs2 → lv_has ls2 8 [(4, .int x4), (0, .ref b), (1, .ref x), (2, .ref q), (3, .ref o)] → W p l e room_1 s m #[Value.ref b] below meth c H2 locs2 (cells + 1) (slots + 8) Q (F0 m 1558 ls2 [])) : W p l e room_1 s m #[Value.ref b] below meth c H locs cells slots Q (F0 m 1508 ls []) := by
  obtain ⟨hx, hb, hml, hown, hts, hK, hO, hX, hXs, hbl, hfl⟩ := C
  obtain ⟨hi1, hi2, hi3, hi4, hi5⟩ := hi
  have hlt := hLS.lt
  obtain ⟨hR, hS⟩ := hLS
  have hVS := hS.va
  have hbA : ¬ (fun y => s.heap.size ≤ y) b := Nat.not_le.mpr hbl
  have hcc : cells ≤ room_1.cells ∧ slots ≤ room_1.slots := ⟨Nat.le_trans (Nat.le_succ _) hc, Nat.le_trans (Nat.le_add_right _ _) hs⟩
  obtain ⟨a1, ha1⟩ : ∃ a, xs (x4 + 1).toNatClampNeg = a := ⟨_, rfl⟩
  obtain ⟨ux, r, um, g1, f1, g2, f2, hRel2⟩ := sim ρ z x q o a1 hRel hlt
  refine lv_aload_n hx hb dL_law_1508 rfl (lv_at hl 2 rfl) ?_
  refine lv_aload_n hx hb dL_law_1509 rfl (lv_at hl 1 rfl) ?_
  refine lv_iload hx hb dL_law_1510 (lv_at hl 0 rfl) ?_
  refine lv_iconst (v := 1) hx hb dL_law_1512 (by decide) ?_
  refine lv_iadd hx hb dL_law_1513 ?_
  refine s_ld hx hb hXs hbl hbA hVS hi1 (ha1) dL_law_1514 ?_
  refine r_callV (As := [.int a1]) (rest := []) (st1 := [.int r]) ⟨hx, hb, hml, hown, hts⟩ (kX9_cost l G ρ x a1 _ f1) (cu_V hts tw_3_212 tw_3_209 tw_3_210 tw_3_211 tw_1_1 hdX9_cost rfl rfl ⟨Nat.le_of_ble_eq_true rfl, Nat.le_of_ble_eq_true rfl⟩) hK hR rfl g1 rfl hl.1 rfl (Nat.le_of_ble_eq_true rfl) dL_law_1515 hcc rfl ?_
  refine lv_aload_n hx hb dL_law_1518 rfl (lv_at hl 3 rfl) ?_
  refine lv_aload_n hx hb dL_law_1519 rfl (lv_at hl 1 rfl) ?_
  refine lv_iload hx hb dL_law_1520 (lv_at hl 0 rfl) ?_
  refine lv_iconst (v := 1) hx hb dL_law_1522 (by decide) ?_
  refine lv_iadd hx hb dL_law_1523 ?_
  refine s_ld hx hb hXs hbl hbA hVS hi1 (ha1) dL_law_1524 ?_
  refine r_callV (As := [.int a1]) (rest := [.int r]) (st1 := [.int r, .int r]) ⟨hx, hb, hml, hown, hts⟩ (kX10_cost l G ρ q a1 _ f2) (cu_V hts tw_6_27 tw_6_24 tw_6_25 tw_6_26 tw_1_4 hdX10_cost rfl rfl ⟨Nat.le_of_ble_eq_true rfl, Nat.le_of_ble_eq_true rfl⟩) hK hR rfl g2 rfl hl.1 rfl (Nat.le_of_ble_eq_true rfl) dL_law_1525 hcc rfl ?_
  refine lv_icmp_eq (tgt := 1558) hx hb dL_law_1528 (by decide) (fun _ => ?_) (fun c9 => absurd rfl c9)
  refine W.widen (k := cells + 1) (n := slots + 8) (by omega) (by omega) ?_
  exact kk _ _ _ _ _ hRel2 ⟨hR, hS⟩ (lv_sub hl [0, 1, 2, 3, 4] rfl)
set_option maxHeartbeats 4000000 in
set_option maxRecDepth 100000 in
theorem lc_toss (C : LC p l s m c b L xs G) (sim : Sim_toss Rel) (hRel : Rel ρ x q o) (hLS : LSt G s ρ z H locs) (hc : cells + 1 ≤ 601024) (hs : slots + 8 ≤ 7293033) (hi : vp_in (x4 + 1) L ∧ vp_in (x4 + 2) L ∧ vp_in (x4 + 3) L ∧ vp_in (x4 + 4) L ∧ vp_in (x4 + 5) L) (hl : lv_has ls 8 [(4, .int x4), (0, .ref b), (1, .ref x), (2, .ref q), (3, .ref o)])
    (kk : ∀ (ρ2 : Rho) (z2 : Nat) (H2 : Heap) (locs2 : List Loc) (ls2 : Array Slot), Rel ρ2 x q o → LSt G s ρ2 z2 H2 locs2 → lv_has ls2 8 [(4, .int x4), (0, .ref b), (1, .ref x), (2, .ref q), (3, .ref o)] → W p l e room_1 s m #[Value.ref b] below meth c H2 locs2 (cells + 1) (slots + 8) Q (F0 m 1558 ls2 [])) : W p l e room_1 s m #[Value.ref b] below meth c H locs cells slots Q (F0 m 1533 ls []) := by
  obtain ⟨hx, hb, hml, hown, hts, hK, hO, hX, hXs, hbl, hfl⟩ := C
  obtain ⟨hi1, hi2, hi3, hi4, hi5⟩ := hi
  have hlt := hLS.lt
  obtain ⟨hR, hS⟩ := hLS
  have hVS := hS.va
  have hbA : ¬ (fun y => s.heap.size ≤ y) b := Nat.not_le.mpr hbl
  have hcc : cells ≤ room_1.cells ∧ slots ≤ room_1.slots := ⟨Nat.le_trans (Nat.le_succ _) hc, Nat.le_trans (Nat.le_add_right _ _) hs⟩
  have hcc2 : cells + 1 ≤ room_1.cells ∧ slots + 6 ≤ room_1.slots := ⟨hc, Nat.le_trans (Nat.add_le_add_left (by decide : 6 ≤ 8) slots) hs⟩
  obtain ⟨a1, ha1⟩ : ∃ a, xs (x4 + 1).toNatClampNeg = a := ⟨_, rfl⟩
  obtain ⟨ux, r, um, g1, f1, g2, f2, hRel2⟩ := sim ρ z x q o a1 hRel hlt
  refine lv_aload_n hx hb dL_law_1533 rfl (lv_at hl 2 rfl) ?_
  refine lv_aload_n hx hb dL_law_1534 rfl (lv_at hl 1 rfl) ?_
  refine lv_iload hx hb dL_law_1535 (lv_at hl 0 rfl) ?_
  refine lv_iconst (v := 1) hx hb dL_law_1537 (by decide) ?_
  refine lv_iadd hx hb dL_law_1538 ?_
  refine s_ld hx hb hXs hbl hbA hVS hi1 (ha1) dL_law_1539 ?_
  refine e_run (rest := []) (st1 := [.int r]) (va_runV (C := RX9) (As := [.int a1]) ⟨hx, hb, hml, hown, hts⟩ (kX9_toss l hfl G ρ s.heap.size x a1 r f1) (cu_V hts tw_3_219 tw_3_216 tw_3_217 tw_3_218 tw_1_1 hdX9_toss rfl rfl ⟨Nat.le_of_ble_eq_true rfl, Nat.le_of_ble_eq_true rfl⟩) ⟨PcX_blind G ρ s.heap.size _, r_recv hK hR (q := (RX9, TX9, 5)) rfl g1, fun U hU hW => x_pre hK (by rw [hU]; exact hR) hX (fun y hy _ => by rw [hU]; exact hS.2.2.1 y hy rfl) _ hW⟩ rfl rfl hl.1 rfl (lv_room (rest := [.int a1, .ref x]) (ls := ls) (pc := 1540) (m := m) (Nat.le_of_ble_eq_true rfl)) dL_law_1540 ⟨hc, Nat.le_trans (Nat.add_le_add_left (by decide : 6 ≤ 8) slots) hs⟩) hR rfl (fun H hR hz1 hk1 => ?_)
  replace hS := hS.grow hz1 hk1
  have hVS := hS.va
  refine lv_aload_n hx hb dL_law_1543 rfl (lv_at hl 3 rfl) ?_
  refine lv_aload_n hx hb dL_law_1544 rfl (lv_at hl 1 rfl) ?_
  refine lv_iload hx hb dL_law_1545 (lv_at hl 0 rfl) ?_
  refine lv_iconst (v := 1) hx hb dL_law_1547 (by decide) ?_
  refine lv_iadd hx hb dL_law_1548 ?_
  refine s_ld hx hb hXs hbl hbA hVS hi1 (ha1) dL_law_1549 ?_
  refine r_callV (As := [.int a1]) (rest := [.int r]) (st1 := [.int r, .int r]) ⟨hx, hb, hml, hown, hts⟩ (kX10_toss l G ρ q a1 _ f2) (cu_V hts tw_6_34 tw_6_31 tw_6_32 tw_6_33 tw_1_4 hdX10_toss rfl rfl ⟨Nat.le_of_ble_eq_true rfl, Nat.le_of_ble_eq_true rfl⟩) hK hR rfl g2 rfl hl.1 rfl (Nat.le_of_ble_eq_true rfl) dL_law_1550 hcc2 rfl ?_
  refine lv_icmp_eq (tgt := 1558) hx hb dL_law_1553 (by decide) (fun _ => ?_) (fun c9 => absurd rfl c9)
  refine W.widen (k := cells + 1) (n := slots + 8) (by omega) (by omega) ?_
  exact kk _ _ _ _ _ hRel2 ⟨hR, hS⟩ (lv_sub hl [0, 1, 2, 3, 4] rfl)
end LAWC
