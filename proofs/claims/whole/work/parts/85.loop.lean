/-! THE CLAIM OUT OF ONE WALK OF THE LAW'S BODY. Your part is whole_start (and what it stands on); all else here is the same for every law, but numbers. -/
def R_law : String := "BrickedUpAsBlindLaw"
def lw_P (b : Addr) (xs : List Int32) (args : Array Value) (s : State) : Prop := args = #[.ref b] ∧ s.IntsAt b xs ∧ xs.length ≤ 3072 ∧ (Jvm.Cond.and given_1 narrow_1).before args s = true
def lw_Q (_ : Array Value) (s : State) (o : Outcome) (t : State) : Prop := o = .returned (some (.int 1)) ∧ Framed s o t [] 601024 7293033
def lw_Z (below : List Frame) (a : Array Value) (s : State) : State → Prop := fun t => ∃ o, t.status = .running ∧ Ended t below o ∧ lw_Q a s o t
/-- the law's own end, with 1 on the stack, nothing written that was there before, its room as the claim has it -/
theorem lw_ret {p : Program} {l : Launch} {e : Env} {s : State} {m : MethodId} {below : List Frame} {meth : Method} {c : Code} {b : Nat} (hx : p.tables.exec = Jvm.exec) (hb : c.code = code) (hr : meth.sig.returnType = ret) (hlocks : meth.locks = false) {pc : Nat} {H : Heap} {ls : Array Slot} (hdg : decode code pc = .ok (.ireturn, 1)) : W p l e room_1 s m #[Value.ref b] below meth c H [] 601024 7293033 (lw_Z below #[Value.ref b] s) (F0 m pc ls [.int 1]) := by
  intro T hT X
  obtain ⟨fs, hret, hrun, hended, hW, hframe⟩ := X.leave (v := some (.int 1)) (hlocks := hlocks) (fun h => by rw [hr] at h; cases h)
  have hmeth' : T.vm.method? m = some meth := X.method'
  refine ⟨T.setFrames fs, ?_, .returned (some (.int 1)), hrun, hended, rfl, ⟨_, rfl⟩, hW, hframe⟩
  jvm_step X.here [X.here.top, hx, hb, hdg, hmeth', hr, ret, narrow_b1]
  (try refine ⟨rfl, ?_⟩); (try refine ⟨rfl, ?_⟩)
  first | (intro acts; rw [hret _ acts rfl rfl rfl]) | rw [hret _ _ rfl rfl rfl]
  exact Steps.refl _
/-- what holds at the law's entry: the machine, the code, the tables' words (any of lw_tbl by 'hts w (by decide +kernel)'), the script of L ints xs at the cell b, what the Statement gives of the start (any of its parts by flat_of_before) -/
def lw_At (p : Program) (s : State) (m : MethodId) (meth : Method) (c : Code) (b L : Nat) (xs : Nat → Int32) : Prop :=
  p.tables.exec = Jvm.exec ∧ c.code = code ∧ meth.sig.returnType = ret ∧ c.maxLocals = 8 ∧ s.vm.findClass R_law = some m.cls ∧ (∀ w ∈ lw_tbl, w.before #[Value.ref b] s = true) ∧ va_X b L xs s s.heap ∧ b < s.heap.size ∧ meth.locks = false ∧ (Jvm.Cond.and given_1 narrow_1).before #[Value.ref b] s = true
def Sim_start (Rel : Rho → Nat → Nat → Nat → Prop) : Prop := ∀ z : Nat, ∃ (ρ1 : Rho) (z1 : Nat) (ρ2 : Rho) (z2 : Nat), fX9_init (rset ρN z (oC 2 [.null, .null, .null, .null, .int 0])) (z + 1) z = some (ρ1, z1) ∧ fX10_init (rset ρ1 z1 (oC 3 [.null, .null, .null, .null, .int 0, .int 0, .int 0, .int 0, .null, .null, .int 0, .int 0, .null, .null, .null, .null, .null, .null, .int 0])) (z1 + 1) z1 = some (ρ2, z2) ∧ Rel (rset ρ2 z2 (lC 1 (fun _ => 0))) z z1 z2
def SimAll (Rel : Rho → Nat → Nat → Nat → Prop) : Prop := Sim_house Rel ∧ Sim_window Rel ∧ Sim_at Rel ∧ Sim_builds Rel ∧ Sim_stops Rel ∧ Sim_needs Rel ∧ Sim_set Rel ∧ Sim_years Rel ∧ Sim_pays Rel ∧ Sim_light Rel ∧ Sim_allDue Rel ∧ Sim_stop Rel ∧ Sim_dark Rel ∧ Sim_darkest Rel ∧ Sim_bright Rel ∧ Sim_mirrors Rel ∧ Sim_mean Rel ∧ Sim_hidden Rel ∧ Sim_looks Rel ∧ Sim_mostMoving Rel ∧ Sim_taken Rel ∧ Sim_bestHour Rel ∧ Sim_game Rel ∧ Sim_suitor Rel ∧ Sim_twins Rel ∧ Sim_whatWas Rel ∧ Sim_paidOff Rel ∧ Sim_rain Rel ∧ Sim_loophole Rel ∧ Sim_forged Rel ∧ Sim_judge Rel ∧ Sim_lots Rel ∧ Sim_image Rel ∧ Sim_restore Rel ∧ Sim_count Rel ∧ Sim_keep Rel ∧ Sim_row Rel ∧ Sim_put Rel ∧ Sim_element Rel ∧ Sim_copy Rel ∧ Sim_cost Rel ∧ Sim_toss Rel
set_option maxHeartbeats 4000000 in
set_option maxRecDepth 100000 in
theorem law_loop {p : Program} {l : Launch} {e : Env} {s : State} {m : MethodId} {below : List Frame} {meth : Method} {c : Code} {b L x q o : Nat} {xs : Nat → Int32} {G : GD} {Rel : Rho → Nat → Nat → Nat → Prop} (C : LC p l s m c b L xs G) (hr : meth.sig.returnType = ret) (hlocks : meth.locks = false) (hL : L ≤ 3072) (S : SimAll Rel) :
    ∀ (n j : Nat) (x4 : Int32) (ρ : Rho) (z : Nat) (H : Heap) (locs : List Loc) (ls : Array Slot), 6 * n + 6 * j > L → 6 * j ≤ L → x4 = nI (6 * j) → Rel ρ x q o → LSt G s ρ z H locs → lv_has ls 8 [(4, .int x4), (0, .ref b), (1, .ref x), (2, .ref q), (3, .ref o)] →
      W p l e room_1 s m #[Value.ref b] below meth c H locs (50 + j) (2070 + 8 * j) (lw_Z below #[Value.ref b] s) (F0 m 23 ls []) := by
  obtain ⟨S0, S1, S2, S3, S4, S5, S6, S7, S8, S9, S10, S11, S12, S13, S14, S15, S16, S17, S18, S19, S20, S21, S22, S23, S24, S25, S26, S27, S28, S29, S30, S31, S32, S33, S34, S35, S36, S37, S38, S39, S40, S41⟩ := S
  intro n
  induction n with
  | zero => intro j x4 ρ z H locs ls h1 h2; omega
  | succ n ih =>
    intro j x4 ρ z H locs ls h1 h2 hx4 hRel hLS hl
    obtain ⟨hx, hb, hml, hown, hts, hK, hO, hX, hXs, hbl, hfl⟩ := id C
    have hVS := hLS.2.va
    have hbA : ¬ (fun y => s.heap.size ≤ y) b := Nat.not_le.mpr hbl
    refine lv_iload hx hb dL_law_23 (lv_at hl 0 rfl) ?_
    refine lv_aload_n hx hb dL_law_25 rfl (lv_at hl 1 rfl) ?_
    refine va_slen hx hb hXs hbl hbA hVS dL_law_26 ?_
    refine lv_bipush (v := 6) hx hb dL_law_27 (by decide) ?_
    refine lv_isub hx hb dL_law_29 ?_
    have tL : (Int32.ofNat L - 6).toInt = (L : Int) - 6 := pk_sub_toInt (a := L) (b := 6) (by omega) (by omega)
    have t4 : x4.toInt = ((6 * j : Nat) : Int) := by rw [hx4]; exact nI_toInt (by omega)
    refine lv_icmp_gt (tgt := 1564) hx hb dL_law_30 (by decide) (fun c1 => ?_) (fun c1 => ?_)
    · refine lv_iconst (v := 1) hx hb dL_law_1564 (by decide) ?_
      refine va_forget (fun y hy => hVS.2.2 y hy) ?_
      refine W.widen (k := 601024) (n := 7293033) (by omega) (by omega) ?_
      exact lw_ret hx hb hr hlocks dL_law_1565
    · have hj : 6 * j + 6 ≤ L := by
        rw [Int32.lt_iff_toInt_lt, tL, t4] at c1
        omega
      have hv : ∀ k : Nat, k < 6 → vp_in (x4 + nI k) L ∧ (x4 + nI k) = nI (6 * j + k) := fun k hk => by
        have e : x4 + nI k = nI (6 * j + k) := by rw [hx4]; exact nI_add _ _
        exact ⟨by rw [e]; exact vp_in_nI (by omega) (by omega), e⟩
      have hi0 : vp_in x4 L := by rw [hx4]; exact vp_in_nI (by omega) (by omega)
      have hi : vp_in (x4 + 1) L ∧ vp_in (x4 + 2) L ∧ vp_in (x4 + 3) L ∧ vp_in (x4 + 4) L ∧ vp_in (x4 + 5) L := ⟨(hv 1 (by omega)).1, (hv 2 (by omega)).1, (hv 3 (by omega)).1, (hv 4 (by omega)).1, (hv 5 (by omega)).1⟩
      have hc : 50 + j + 1 ≤ 601024 := by omega
      have hs : 2070 + 8 * j + 8 ≤ 7293033 := by omega
      have kk : ∀ (ρ2 : Rho) (z2 : Nat) (H2 : Heap) (locs2 : List Loc) (ls2 : Array Slot), Rel ρ2 x q o → LSt G s ρ2 z2 H2 locs2 → lv_has ls2 8 [(4, .int x4), (0, .ref b), (1, .ref x), (2, .ref q), (3, .ref o)] → W p l e room_1 s m #[Value.ref b] below meth c H2 locs2 (50 + j + 1) (2070 + 8 * j + 8) (lw_Z below #[Value.ref b] s) (F0 m 1558 ls2 []) := by
        intro ρ2 z2 H2 locs2 ls2 hRel2 hLS2 hl2
        refine lv_iinc (v := (x4 + 6)) (lv' := [(4, .int (x4 + 6)), (0, .ref b), (1, .ref x), (2, .ref q), (3, .ref o)]) hx hb dL_law_1558 hl2 (k := 0) rfl rfl (by decide) rfl (fun ls3 hl3 => ?_)
        refine lv_goto (tgt := 23) hx hb dL_law_1561 (by decide) ?_
        exact ih (j + 1) (x4 + 6) ρ2 z2 H2 locs2 ls3 (by omega) (by omega) (by rw [hx4]; exact nI_add _ 6) hRel2 hLS2 hl3
      refine lv_aload_n hx hb dL_law_33 rfl (lv_at hl 1 rfl) ?_
      refine lv_iload hx hb dL_law_34 (lv_at hl 0 rfl) ?_
      refine va_sld hx hb hXs hbl hbA hVS hi0 dL_law_36 ?_
      refine lv_bipush (v := 63) hx hb dL_law_37 (by decide) ?_
      refine lv_iand hx hb dL_law_39 ?_
      generalize xs x4.toNatClampNeg &&& 63 = t
      by_cases d0 : t = 0
      · refine lv_tableIn (tgt := 224) hx hb dL_law_40 (by rw [d0]; decide) (by rw [d0]; decide) (by rw [d0] <;> rfl) (by decide) ?_
        exact lc_house C S0 hRel hLS hc hs hi hl kk
      by_cases d1 : t = 1
      · refine lv_tableIn (tgt := 249) hx hb dL_law_40 (by rw [d1]; decide) (by rw [d1]; decide) (by rw [d1] <;> rfl) (by decide) ?_
        exact lc_window C S1 hRel hLS hc hs hi hl kk
      by_cases d2 : t = 2
      · refine lv_tableIn (tgt := 286) hx hb dL_law_40 (by rw [d2]; decide) (by rw [d2]; decide) (by rw [d2] <;> rfl) (by decide) ?_
        exact lc_at C S2 hRel hLS hc hs hi hl kk
      by_cases d3 : t = 3
      · refine lv_tableIn (tgt := 335) hx hb dL_law_40 (by rw [d3]; decide) (by rw [d3]; decide) (by rw [d3] <;> rfl) (by decide) ?_
        exact lc_builds C S3 hRel hLS hc hs hi hl kk
      by_cases d4 : t = 4
      · refine lv_tableIn (tgt := 384) hx hb dL_law_40 (by rw [d4]; decide) (by rw [d4]; decide) (by rw [d4] <;> rfl) (by decide) ?_
        exact lc_stops C S4 hRel hLS hc hs hi hl kk
      by_cases d5 : t = 5
      · refine lv_tableIn (tgt := 409) hx hb dL_law_40 (by rw [d5]; decide) (by rw [d5]; decide) (by rw [d5] <;> rfl) (by decide) ?_
        exact lc_needs C S5 hRel hLS hc hs hi hl kk
      by_cases d6 : t = 6
      · refine lv_tableIn (tgt := 446) hx hb dL_law_40 (by rw [d6]; decide) (by rw [d6]; decide) (by rw [d6] <;> rfl) (by decide) ?_
        exact lc_set C S6 hRel hLS hc hs hi hl kk
      by_cases d7 : t = 7
      · refine lv_tableIn (tgt := 483) hx hb dL_law_40 (by rw [d7]; decide) (by rw [d7]; decide) (by rw [d7] <;> rfl) (by decide) ?_
        exact lc_years C S7 hRel hLS hc hs hi hl kk
      by_cases d8 : t = 8
      · refine lv_tableIn (tgt := 508) hx hb dL_law_40 (by rw [d8]; decide) (by rw [d8]; decide) (by rw [d8] <;> rfl) (by decide) ?_
        exact lc_pays C S8 hRel hLS hc hs hi hl kk
      by_cases d9 : t = 9
      · refine lv_tableIn (tgt := 533) hx hb dL_law_40 (by rw [d9]; decide) (by rw [d9]; decide) (by rw [d9] <;> rfl) (by decide) ?_
        exact lc_light C S9 hRel hLS hc hs hi hl kk
      by_cases d10 : t = 10
      · refine lv_tableIn (tgt := 570) hx hb dL_law_40 (by rw [d10]; decide) (by rw [d10]; decide) (by rw [d10] <;> rfl) (by decide) ?_
        exact lc_allDue C S10 hRel hLS hc hs hi hl kk
      by_cases d11 : t = 11
      · refine lv_tableIn (tgt := 583) hx hb dL_law_40 (by rw [d11]; decide) (by rw [d11]; decide) (by rw [d11] <;> rfl) (by decide) ?_
        exact lc_stop C S11 hRel hLS hc hs hi hl kk
      by_cases d12 : t = 12
      · refine lv_tableIn (tgt := 608) hx hb dL_law_40 (by rw [d12]; decide) (by rw [d12]; decide) (by rw [d12] <;> rfl) (by decide) ?_
        exact lc_dark C S12 hRel hLS hc hs hi hl kk
      by_cases d13 : t = 13
      · refine lv_tableIn (tgt := 621) hx hb dL_law_40 (by rw [d13]; decide) (by rw [d13]; decide) (by rw [d13] <;> rfl) (by decide) ?_
        exact lc_darkest C S13 hRel hLS hc hs hi hl kk
      by_cases d14 : t = 14
      · refine lv_tableIn (tgt := 634) hx hb dL_law_40 (by rw [d14]; decide) (by rw [d14]; decide) (by rw [d14] <;> rfl) (by decide) ?_
        exact lc_bright C S14 hRel hLS hc hs hi hl kk
      by_cases d15 : t = 15
      · refine lv_tableIn (tgt := 659) hx hb dL_law_40 (by rw [d15]; decide) (by rw [d15]; decide) (by rw [d15] <;> rfl) (by decide) ?_
        exact lc_mirrors C S15 hRel hLS hc hs hi hl kk
      by_cases d16 : t = 16
      · refine lv_tableIn (tgt := 672) hx hb dL_law_40 (by rw [d16]; decide) (by rw [d16]; decide) (by rw [d16] <;> rfl) (by decide) ?_
        exact lc_mean C S16 hRel hLS hc hs hi hl kk
      by_cases d17 : t = 17
      · refine lv_tableIn (tgt := 710) hx hb dL_law_40 (by rw [d17]; decide) (by rw [d17]; decide) (by rw [d17] <;> rfl) (by decide) ?_
        exact lc_hidden C S17 hRel hLS hc hs hi hl kk
      by_cases d18 : t = 18
      · refine lv_tableIn (tgt := 723) hx hb dL_law_40 (by rw [d18]; decide) (by rw [d18]; decide) (by rw [d18] <;> rfl) (by decide) ?_
        exact lc_looks C S18 hRel hLS hc hs hi hl kk
      by_cases d19 : t = 19
      · refine lv_tableIn (tgt := 736) hx hb dL_law_40 (by rw [d19]; decide) (by rw [d19]; decide) (by rw [d19] <;> rfl) (by decide) ?_
        exact lc_mostMoving C S19 hRel hLS hc hs hi hl kk
      by_cases d20 : t = 20
      · refine lv_tableIn (tgt := 761) hx hb dL_law_40 (by rw [d20]; decide) (by rw [d20]; decide) (by rw [d20] <;> rfl) (by decide) ?_
        exact lc_taken C S20 hRel hLS hc hs hi hl kk
      by_cases d21 : t = 21
      · refine lv_tableIn (tgt := 786) hx hb dL_law_40 (by rw [d21]; decide) (by rw [d21]; decide) (by rw [d21] <;> rfl) (by decide) ?_
        exact lc_bestHour C S21 hRel hLS hc hs hi hl kk
      by_cases d22 : t = 22
      · refine lv_tableIn (tgt := 811) hx hb dL_law_40 (by rw [d22]; decide) (by rw [d22]; decide) (by rw [d22] <;> rfl) (by decide) ?_
        exact lc_game C S22 hRel hLS hc hs hi hl kk
      by_cases d23 : t = 23
      · refine lv_tableIn (tgt := 848) hx hb dL_law_40 (by rw [d23]; decide) (by rw [d23]; decide) (by rw [d23] <;> rfl) (by decide) ?_
        exact lc_suitor C S23 hRel hLS hc hs hi hl kk
      by_cases d24 : t = 24
      · refine lv_tableIn (tgt := 873) hx hb dL_law_40 (by rw [d24]; decide) (by rw [d24]; decide) (by rw [d24] <;> rfl) (by decide) ?_
        exact lc_twins C S24 hRel hLS hc hs hi hl kk
      by_cases d25 : t = 25
      · refine lv_tableIn (tgt := 898) hx hb dL_law_40 (by rw [d25]; decide) (by rw [d25]; decide) (by rw [d25] <;> rfl) (by decide) ?_
        exact lc_whatWas C S25 hRel hLS hc hs hi hl kk
      by_cases d26 : t = 26
      · refine lv_tableIn (tgt := 959) hx hb dL_law_40 (by rw [d26]; decide) (by rw [d26]; decide) (by rw [d26] <;> rfl) (by decide) ?_
        exact lc_paidOff C S26 hRel hLS hc hs hi hl kk
      by_cases d27 : t = 27
      · refine lv_tableIn (tgt := 984) hx hb dL_law_40 (by rw [d27]; decide) (by rw [d27]; decide) (by rw [d27] <;> rfl) (by decide) ?_
        exact lc_rain C S27 hRel hLS hc hs hi hl kk
      by_cases d28 : t = 28
      · refine lv_tableIn (tgt := 1046) hx hb dL_law_40 (by rw [d28]; decide) (by rw [d28]; decide) (by rw [d28] <;> rfl) (by decide) ?_
        exact lc_loophole C S28 hRel hLS hc hs hi hl kk
      by_cases d29 : t = 29
      · refine lv_tableIn (tgt := 1059) hx hb dL_law_40 (by rw [d29]; decide) (by rw [d29]; decide) (by rw [d29] <;> rfl) (by decide) ?_
        exact lc_forged C S29 hRel hLS hc hs hi hl kk
      by_cases d30 : t = 30
      · refine lv_tableIn (tgt := 1084) hx hb dL_law_40 (by rw [d30]; decide) (by rw [d30]; decide) (by rw [d30] <;> rfl) (by decide) ?_
        exact lc_judge C S30 hRel hLS hc hs hi hl kk
      by_cases d31 : t = 31
      · refine lv_tableIn (tgt := 1109) hx hb dL_law_40 (by rw [d31]; decide) (by rw [d31]; decide) (by rw [d31] <;> rfl) (by decide) ?_
        exact lc_lots C S31 hRel hLS hc hs hi hl kk
      by_cases d32 : t = 32
      · refine lv_tableIn (tgt := 1158) hx hb dL_law_40 (by rw [d32]; decide) (by rw [d32]; decide) (by rw [d32] <;> rfl) (by decide) ?_
        exact lc_image C S32 hRel hLS hc hs hi hl kk
      by_cases d33 : t = 33
      · refine lv_tableIn (tgt := 1171) hx hb dL_law_40 (by rw [d33]; decide) (by rw [d33]; decide) (by rw [d33] <;> rfl) (by decide) ?_
        exact lc_restore C S33 hRel hLS hc hs hi hl kk
      by_cases d34 : t = 34
      · refine lv_tableIn (tgt := 1184) hx hb dL_law_40 (by rw [d34]; decide) (by rw [d34]; decide) (by rw [d34] <;> rfl) (by decide) ?_
        exact lc_count C S34 hRel hLS hc hs hi hl kk
      by_cases d35 : t = 35
      · refine lv_tableIn (tgt := 1209) hx hb dL_law_40 (by rw [d35]; decide) (by rw [d35]; decide) (by rw [d35] <;> rfl) (by decide) ?_
        exact lc_keep C S35 hRel hLS hc hs hi hl kk
      by_cases d36 : t = 36
      · refine lv_tableIn (tgt := 1270) hx hb dL_law_40 (by rw [d36]; decide) (by rw [d36]; decide) (by rw [d36] <;> rfl) (by decide) ?_
        exact lc_row C S36 hRel hLS hc hs hi hl kk
      by_cases d37 : t = 37
      · refine lv_tableIn (tgt := 1319) hx hb dL_law_40 (by rw [d37]; decide) (by rw [d37]; decide) (by rw [d37] <;> rfl) (by decide) ?_
        exact lc_put C S37 hRel hLS hc hs hi hl kk
      by_cases d38 : t = 38
      · refine lv_tableIn (tgt := 1368) hx hb dL_law_40 (by rw [d38]; decide) (by rw [d38]; decide) (by rw [d38] <;> rfl) (by decide) ?_
        exact lc_element C S38 hRel hLS hc hs hi hl kk
      by_cases d39 : t = 39
      · refine lv_tableIn (tgt := 1435) hx hb dL_law_40 (by rw [d39]; decide) (by rw [d39]; decide) (by rw [d39] <;> rfl) (by decide) ?_
        exact lc_copy C S39 hRel hLS hc hs hi hl kk
      by_cases d40 : t = 40
      · refine lv_tableIn (tgt := 1508) hx hb dL_law_40 (by rw [d40]; decide) (by rw [d40]; decide) (by rw [d40] <;> rfl) (by decide) ?_
        exact lc_cost C S40 hRel hLS hc hs hi hl kk
      by_cases d41 : t = 41
      · refine lv_tableIn (tgt := 1533) hx hb dL_law_40 (by rw [d41]; decide) (by rw [d41]; decide) (by rw [d41] <;> rfl) (by decide) ?_
        exact lc_toss C S41 hRel hLS hc hs hi hl kk
      refine r_tabD (tgt := 1558) hx hb dL_law_40 rfl (fun y hy => ?_) (by decide) ?_
      · replace hy : y < 42 := hy
        rcases (show y = 0 ∨ y = 1 ∨ y = 2 ∨ y = 3 ∨ y = 4 ∨ y = 5 ∨ y = 6 ∨ y = 7 ∨ y = 8 ∨ y = 9 ∨ y = 10 ∨ y = 11 ∨ y = 12 ∨ y = 13 ∨ y = 14 ∨ y = 15 ∨ y = 16 ∨ y = 17 ∨ y = 18 ∨ y = 19 ∨ y = 20 ∨ y = 21 ∨ y = 22 ∨ y = 23 ∨ y = 24 ∨ y = 25 ∨ y = 26 ∨ y = 27 ∨ y = 28 ∨ y = 29 ∨ y = 30 ∨ y = 31 ∨ y = 32 ∨ y = 33 ∨ y = 34 ∨ y = 35 ∨ y = 36 ∨ y = 37 ∨ y = 38 ∨ y = 39 ∨ y = 40 ∨ y = 41 by omega) with rfl | rfl | rfl | rfl | rfl | rfl | rfl | rfl | rfl | rfl | rfl | rfl | rfl | rfl | rfl | rfl | rfl | rfl | rfl | rfl | rfl | rfl | rfl | rfl | rfl | rfl | rfl | rfl | rfl | rfl | rfl | rfl | rfl | rfl | rfl | rfl | rfl | rfl | rfl | rfl | rfl | rfl
        · exact Or.inr (lv_neT d0 rfl)
        · exact Or.inr (lv_neT d1 rfl)
        · exact Or.inr (lv_neT d2 rfl)
        · exact Or.inr (lv_neT d3 rfl)
        · exact Or.inr (lv_neT d4 rfl)
        · exact Or.inr (lv_neT d5 rfl)
        · exact Or.inr (lv_neT d6 rfl)
        · exact Or.inr (lv_neT d7 rfl)
        · exact Or.inr (lv_neT d8 rfl)
        · exact Or.inr (lv_neT d9 rfl)
        · exact Or.inr (lv_neT d10 rfl)
        · exact Or.inr (lv_neT d11 rfl)
        · exact Or.inr (lv_neT d12 rfl)
        · exact Or.inr (lv_neT d13 rfl)
        · exact Or.inr (lv_neT d14 rfl)
        · exact Or.inr (lv_neT d15 rfl)
        · exact Or.inr (lv_neT d16 rfl)
        · exact Or.inr (lv_neT d17 rfl)
        · exact Or.inr (lv_neT d18 rfl)
        · exact Or.inr (lv_neT d19 rfl)
        · exact Or.inr (lv_neT d20 rfl)
        · exact Or.inr (lv_neT d21 rfl)
        · exact Or.inr (lv_neT d22 rfl)
        · exact Or.inr (lv_neT d23 rfl)
        · exact Or.inr (lv_neT d24 rfl)
        · exact Or.inr (lv_neT d25 rfl)
        · exact Or.inr (lv_neT d26 rfl)
        · exact Or.inr (lv_neT d27 rfl)
        · exact Or.inr (lv_neT d28 rfl)
        · exact Or.inr (lv_neT d29 rfl)
        · exact Or.inr (lv_neT d30 rfl)
        · exact Or.inr (lv_neT d31 rfl)
        · exact Or.inr (lv_neT d32 rfl)
        · exact Or.inr (lv_neT d33 rfl)
        · exact Or.inr (lv_neT d34 rfl)
        · exact Or.inr (lv_neT d35 rfl)
        · exact Or.inr (lv_neT d36 rfl)
        · exact Or.inr (lv_neT d37 rfl)
        · exact Or.inr (lv_neT d38 rfl)
        · exact Or.inr (lv_neT d39 rfl)
        · exact Or.inr (lv_neT d40 rfl)
        · exact Or.inr (lv_neT d41 rfl)
      refine W.widen (k := 50 + j + 1) (n := 2070 + 8 * j + 8) (by omega) (by omega) ?_
      exact kk ρ z H locs ls hRel hLS hl
theorem ex_str {own C : String} {k : Nat} {args : Array Value} {s : State} (h : (Cond.exactly (Term.string own k) C).before args s = true) : ∃ a, (Term.string own k).eval args s none [] s = some (.ref a) := by
  cases he : (Term.string own k).eval args s none [] s with
  | none => simp [Cond.before, Cond.holds, Cond.value, he] at h
  | some v => cases hc : s.vm.findClass C <;> cases v <;> first | exact ⟨_, rfl⟩ | simp [Cond.before, Cond.holds, Cond.value, he, hc] at h
theorem ar_start {ty : FieldType} {args : Array Value} {s : State} (h : (Cond.arrayClass ty).before args s = true) : ∃ c, ArrOfT s c ty ∧ s.vm.findClass ("[" ++ ty.toString) = some c := by
  obtain ⟨c, k, comp, h1, h2, h3⟩ := Cond.arrayClass_spec h
  exact ⟨c, fun n z => ⟨fun k h => (by cases h), k, h2, comp, h3⟩, h1⟩
theorem kw_start {args : Array Value} {s : State} (hts : ∀ w ∈ LW, w.before args s = true) (hO : va_AO RX6 s) : ∃ G, KW G s := by
  obtain ⟨c0, i0, k0⟩ := u_known (C := RX0) (T := TX0) (N := 11) (n := 11) hts inX0 (hts _ tw_1_30)
  obtain ⟨c1, i1, k1⟩ := u_known (C := RX6) (T := TX6) (N := 6) (n := 6) hts inX6 (hts _ tw_1_96)
  obtain ⟨c2, i2, k2⟩ := u_known (C := RX9) (T := TX9) (N := 5) (n := 5) hts inX9 (hts _ tw_1_22)
  obtain ⟨c3, i3, k3⟩ := u_known (C := RX10) (T := TX10) (N := 19) (n := 19) hts inX10 (hts _ tw_4_105)
  obtain ⟨a1, g1, g2⟩ := ar_start (ty := .int) (hts _ (lw_t1 (List.mem_of_getElem? (i := 93) rfl) rfl))
  obtain ⟨a2, g3, g4⟩ := ar_start (ty := .long) (hts _ (lw_t6 (List.mem_of_getElem? (i := 35) rfl) rfl))
  obtain ⟨comp, c, kS, h1, h2, h3, h4, h5⟩ := Cond.arrayOver_spec hO
  refine ⟨((fun k => if k = 0 then c0 else if k = 1 then c1 else if k = 2 then c2 else c3, fun k => if k = 0 then i0 else if k = 1 then i1 else if k = 2 then i2 else i3), a1, a2, c), fun k r hr => ?_, fun k r hr => ?_⟩
  · match k, hr with
    | 0, hr => cases hr; exact k0
    | 1, hr => cases hr; exact k1
    | 2, hr => cases hr; exact k2
    | 3, hr => cases hr; exact k3
    | k + 4, hr => simp [vwCl] at hr
  · match k, hr with
    | 0, hr => cases hr; exact ⟨g1, g2⟩
    | 1, hr => cases hr; exact ⟨g3, g4⟩
    | 2, hr => cases hr; exact ⟨fun n z => ⟨fun k h => (by cases h), kS, h3, comp, h4⟩, kS, comp, h3, h4, h1, h5⟩
    | k + 3, hr => simp [ac_T] at hr
theorem xp_start {b : Addr} {s : State} (hw : ∀ w ∈ lw_tbl, w.before #[Value.ref b] s = true) (hg : (Jvm.Cond.and given_1 narrow_1).before #[Value.ref b] s = true) : XP s.heap.size s := by
  have hn := flat_of_before _ hg
  have tb : ∀ w ∈ tables_1, w.before #[Value.ref b] s = true := fun w h => hw w (List.mem_append_right _ h)
  have t4 : ∀ w ∈ tables_1_4, w.before #[Value.ref b] s = true := fun w h => tb w (show w ∈ tables_1_1 ++ (tables_1_2 ++ (tables_1_3 ++ (tables_1_4 ++ (tables_1_5 ++ tables_1_6)))) from List.mem_append_right _ (List.mem_append_right _ (List.mem_append_right _ (List.mem_append_left _ h))))
  have hts : ∀ w ∈ LW, w.before #[Value.ref b] s = true := fun w h => hw w (List.mem_filter.mp h).1
  have hA : ∀ a : Nat, a < s.heap.size → ¬ (fun q => s.heap.size ≤ q) a := fun a h => Nat.not_le.mpr h
  have str : ∀ (own tx : String) (k i : Nat), tables_1_4[i]? = some (Cond.stringRef own k tx) → Cond.exactly (Term.string own k) "java/lang/String" ∈ flatC (Jvm.Cond.and given_1 narrow_1) → ∃ a, vk_R own k tx a s := by
    intro own tx k i h1 h2
    obtain ⟨a, ha⟩ := ex_str (hn _ h2)
    exact ⟨a, vk_R.of (t4 _ (List.mem_of_getElem? h1)) ha⟩
  refine ⟨fun w h => lf_same h rfl (hw w (List.mem_filter.mp h).1), ⟨vx_Zqof (t4 _ (List.mem_of_getElem? (i := 15) rfl)) (hts _ tw_1_15) (hn _ (by decide +kernel)) hA, vx_Zqof (t4 _ (List.mem_of_getElem? (i := 17) rfl)) (hts _ tw_1_15) (hn _ (by decide +kernel)) hA⟩, ⟨str _ _ _ 29 rfl (by decide +kernel), str _ _ _ 65 rfl (by decide +kernel), str _ _ _ 80 rfl (by decide +kernel)⟩, ⟨str _ _ _ 98 rfl (by decide +kernel), str _ _ _ 101 rfl (by decide +kernel), str _ _ _ 103 rfl (by decide +kernel)⟩, va_Nc.of (hn _ (by decide +kernel)), va_Nc.of (hn _ (by decide +kernel)), va_Nc.of (hn _ (by decide +kernel)), va_Nc.of (hn _ (by decide +kernel))⟩
set_option maxHeartbeats 4000000 in
set_option maxRecDepth 100000 in
theorem law_start {Rel : Rho → Nat → Nat → Nat → Prop} (S0 : Sim_start Rel) (S : SimAll Rel) {p : Program} {e : Env} {s : State} {m : MethodId} {below : List Frame} {meth : Method} {c : Code} (l : Launch) (hflags : l.flags = flags0) {b L : Nat} {xs : Nat → Int32} (hL : L ≤ 3072) (C0 : lw_At p s m meth c b L xs) : W p l e room_1 s m #[Value.ref b] below meth c s.heap [] 0 0 (lw_Z below #[Value.ref b] s) (entryFrame m ([Value.ref b] : List Value).toArray 8) := by
  obtain ⟨hx, hb, hr, hml, hown, hts, hX, hbl, hlocks, hgv⟩ := id C0
  have htw : ∀ w ∈ LW, w.before #[Value.ref b] s = true := fun w h => hts w (List.mem_filter.mp h).1
  have hO : va_AO RX6 s := va_AO.of (hts _ (List.mem_append_right _ (show _ ∈ tables_1_1 ++ (tables_1_2 ++ (tables_1_3 ++ (tables_1_4 ++ (tables_1_5 ++ tables_1_6)))) from List.mem_append_left _ (List.mem_of_getElem? (i := 95) rfl))))
  obtain ⟨G, hK⟩ := kw_start htw hO
  have hXP := xp_start hts hgv
  have hfl : l.stackTraces = false := by unfold Launch.stackTraces; rw [hflags]; decide
  have C : LC p l s m c b L xs G := ⟨hx, hb, hml, hown, htw, hK, hO, hXP, hX, hbl, hfl⟩
  have hR : RW G ρN s.heap := fun a c h => by cases h
  have hS : AS ρN s.heap ρN s.heap.size s.heap [] := AS.rf
  obtain ⟨ρ1, z1, ρ2, z2, f1, f2, hRel⟩ := S0 s.heap.size
  have hl := lv_entry ([.ref b]) (n := 8) (Nat.le_of_ble_eq_true rfl)
  rw [lg_entry_eq]
  generalize (lg_sl ([.ref b]) ++ List.replicate (8 - (lg_sl ([.ref b])).length) Slot.unset).toArray = ls at hl ⊢
  replace hl : lv_has ls 8 [(0, .ref b)] := hl
  refine a_new (ci := 2) (fs := [.null, .null, .null, .null, .int 0]) hx hb htw inX9 tyX9 tyX9_ok hown (htw _ tw_1_21) (htw _ tw_1_22) (htw _ tw_1_1) hK hR hS rfl (fun j hj => by rcases (show j = 0 ∨ j = 1 ∨ j = 2 ∨ j = 3 ∨ j = 4 by omega) with rfl | rfl | rfl | rfl | rfl <;> rfl) (Nat.le_of_ble_eq_true rfl) (Nat.le_of_ble_eq_true rfl) dL_law_0 (fun H hR hS => ?_)
  refine lv_dup hx hb dL_law_3 rfl ?_
  refine a_callI (As := []) (rest := [.ref s.heap.size]) (st1 := [.ref s.heap.size]) ⟨hx, hb, hml, hown, htw⟩ (kX9_init l G _ _ _ _ _ f1) (cu_I htw tw_1_25 tw_1_23 tw_1_24 tw_1_1 hdX9_init rfl rfl rfl ⟨Nat.le_of_ble_eq_true rfl, Nat.le_of_ble_eq_true rfl⟩) hK hO hR hS rfl hl.1 rfl (Nat.le_of_ble_eq_true rfl) dL_law_4 ⟨Nat.le_of_ble_eq_true rfl, Nat.le_of_ble_eq_true rfl⟩ rfl (fun H locs hR hS => ?_)
  refine lv_astore_n (lv' := [(1, .ref s.heap.size), (0, .ref b)]) hx hb dL_law_7 rfl hl (by decide) rfl (fun ls hl => ?_)
  refine a_new (ci := 3) (fs := [.null, .null, .null, .null, .int 0, .int 0, .int 0, .int 0, .null, .null, .int 0, .int 0, .null, .null, .null, .null, .null, .null, .int 0]) hx hb htw inX10 tyX10 tyX10_ok hown (htw _ tw_4_104) (htw _ tw_4_105) (htw _ tw_1_4) hK hR hS rfl (fun j hj => by rcases (show j = 0 ∨ j = 1 ∨ j = 2 ∨ j = 3 ∨ j = 4 ∨ j = 5 ∨ j = 6 ∨ j = 7 ∨ j = 8 ∨ j = 9 ∨ j = 10 ∨ j = 11 ∨ j = 12 ∨ j = 13 ∨ j = 14 ∨ j = 15 ∨ j = 16 ∨ j = 17 ∨ j = 18 by omega) with rfl | rfl | rfl | rfl | rfl | rfl | rfl | rfl | rfl | rfl | rfl | rfl | rfl | rfl | rfl | rfl | rfl | rfl | rfl <;> rfl) (Nat.le_of_ble_eq_true rfl) (Nat.le_of_ble_eq_true rfl) dL_law_8 (fun H hR hS => ?_)
  refine lv_dup hx hb dL_law_11 rfl ?_
  refine a_callI (As := []) (rest := [.ref z1]) (st1 := [.ref z1]) ⟨hx, hb, hml, hown, htw⟩ (kX10_init l G _ _ _ _ _ f2) (cu_I htw tw_4_108 tw_4_106 tw_4_107 tw_1_4 hdX10_init rfl rfl rfl ⟨Nat.le_of_ble_eq_true rfl, Nat.le_of_ble_eq_true rfl⟩) hK hO hR hS rfl hl.1 rfl (Nat.le_of_ble_eq_true rfl) dL_law_12 ⟨Nat.le_of_ble_eq_true rfl, Nat.le_of_ble_eq_true rfl⟩ rfl (fun H locs hR hS => ?_)
  refine lv_astore_n (lv' := [(2, .ref z1), (1, .ref s.heap.size), (0, .ref b)]) hx hb dL_law_15 rfl hl (by decide) rfl (fun ls hl => ?_)
  refine lv_iconst (v := 1) hx hb dL_law_16 (by decide) ?_
  refine a_newL (N' := 1) hx hb (htw _ (lw_t6 (List.mem_of_getElem? (i := 35) rfl) rfl)) hK hR hS (by decide) (by decide) (Nat.le_of_ble_eq_true rfl) (Nat.le_of_ble_eq_true rfl) (Nat.le_of_ble_eq_true rfl) dL_law_17 (fun H hR hS => ?_)
  refine lv_astore_n (lv' := [(3, .ref z2), (2, .ref z1), (1, .ref s.heap.size), (0, .ref b)]) hx hb dL_law_19 rfl hl (by decide) rfl (fun ls hl => ?_)
  refine lv_iconst (v := 0) hx hb dL_law_20 (by decide) ?_
  refine lv_istore (lv' := [(4, .int 0), (3, .ref z2), (2, .ref z1), (1, .ref s.heap.size), (0, .ref b)]) hx hb dL_law_21 hl (by decide) rfl (fun ls hl => ?_)
  exact law_loop C hr hlocks hL S (L + 1) 0 0 _ _ H _ ls (by omega) (by omega) nI_0.symm hRel ⟨hR, hS⟩ (lv_sub hl [0, 4, 3, 2, 1] rfl)
