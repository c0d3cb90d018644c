/-! BrickedUpAsBlind.House.become(LBrickedUpAsBlind$House;)V -/
def fX0_become (ρ : Rho) (v0 : Nat) (v1 : Nat) : Option Rho :=
    (gR ρ 0 v1 0).bind fun x1 =>
    (gR ρ 0 v0 0).bind fun x2 =>
    (cpI ρ x1 0 x2 0 8).bind fun x3 =>
    (gR x3 0 v1 1).bind fun x4 =>
    (gR x3 0 v0 1).bind fun x5 =>
    (cpI x3 x4 0 x5 0 8).bind fun x6 =>
    (gR x6 0 v1 2).bind fun x7 =>
    (gR x6 0 v0 2).bind fun x8 =>
    (cpI x6 x7 0 x8 0 8).bind fun x9 =>
    (gR x9 0 v1 3).bind fun x10 =>
    (gR x9 0 v0 3).bind fun x11 =>
    (cpI x9 x10 0 x11 0 8).bind fun x12 =>
    (gR x12 0 v1 4).bind fun x13 =>
    (gR x12 0 v0 4).bind fun x14 =>
    (cpI x12 x13 0 x14 0 4).bind fun x15 =>
    (gI x15 0 v1 5).bind fun x16 =>
    (ptV x15 0 v0 5 (.int x16)).bind fun x17 =>
    (gI x17 0 v1 6).bind fun x18 =>
    (ptV x17 0 v0 6 (.int x18)).bind fun x19 =>
    (gI x19 0 v1 7).bind fun x20 =>
    (ptV x19 0 v0 7 (.int x20)).bind fun x21 =>
    (gI x21 0 v1 8).bind fun x22 =>
    (ptV x21 0 v0 8 (.int x22)).bind fun x23 =>
    (gI x23 0 v1 9).bind fun x24 =>
    (ptV x23 0 v0 9 (.int x24)).bind fun x25 =>
    (gI x25 0 v1 10).bind fun x26 =>
    (ptV x25 0 v0 10 (.int x26)).bind fun x27 =>
    some x27
abbrev rX0_become : Room := { frames := 1, cells := 0, slots := 0, locals := 64 }
theorem hdX0_become : hdP yX0_become 1 := by unfold hdP; decide +kernel
set_option maxHeartbeats 4000000 in
set_option maxRecDepth 100000 in
theorem kX0_become (l : Launch) (G : GD) (ρ : Rho) (v0 : Nat) (v1 : Nat) (ρ1 : Rho) (hf : fX0_become ρ v0 v1 = some ρ1) : WM l G yX0_become (Cond.code yX0_become cX0_become 2 none :: LW) rX0_become ρ [.ref v0, .ref v1] (none) ρ1 := by
  obtain ⟨r, hr⟩ : ∃ r, r = ρ1 := ⟨_, rfl⟩
  rw [← hr] at hf
  refine WM.ofV (own := RX0) (r := r) hr (by decide) rfl (Nat.le_of_ble_eq_true rfl) ?_
  intro p e s m args below meth c H locs Q hx hb hml hown hts hK hR hS hret ls hl
  obtain ⟨ρ0, hρ0⟩ : ∃ z, z = ρ := ⟨_, rfl⟩
  rw [← hρ0] at hret
  replace hS : WS ρ0 s.heap ρ H locs := hρ0 ▸ hS
  replace hl : lv_has ls 2 [(0, .ref v0), (1, .ref v1)] := hl
  unfold fX0_become at hf
  refine lv_aload_n hx hb dX0_become_0 rfl (lv_at hl 1 rfl) ?_
  obtain ⟨x1, h1, hf⟩ := Option.bind_eq_some_iff.mp hf
  refine r_gR hx hb hts inX0 hown hK hR rfl 0 (by decide) (hts _ tw_1_35) h1 dX0_become_1 ?_
  refine lv_iconst (v := 0) hx hb dX0_become_4 (by decide) ?_
  refine lv_aload_n hx hb dX0_become_5 rfl (lv_at hl 0 rfl) ?_
  obtain ⟨x2, h2, hf⟩ := Option.bind_eq_some_iff.mp hf
  refine r_gR hx hb hts inX0 hown hK hR rfl 0 (by decide) (hts _ tw_1_35) h2 dX0_become_6 ?_
  refine lv_iconst (v := 0) hx hb dX0_become_9 (by decide) ?_
  refine lv_bipush (v := 8) hx hb dX0_become_10 (by decide) ?_
  obtain ⟨x3, h3, hf⟩ := Option.bind_eq_some_iff.mp hf
  refine w_cpI hx hb (hml.trans hl.1.symm) hown (hts _ tw_1_179) (hts _ tw_1_181) (hts _ tw_1_180) (hts _ tw_1_6) hK hR hS h3 (Nat.le_of_ble_eq_true rfl) (Nat.le_of_ble_eq_true rfl) dX0_become_12 (fun H locs hR hS => ?_)
  refine lv_aload_n hx hb dX0_become_15 rfl (lv_at hl 1 rfl) ?_
  obtain ⟨x4, h4, hf⟩ := Option.bind_eq_some_iff.mp hf
  refine r_gR hx hb hts inX0 hown hK hR rfl 1 (by decide) (hts _ tw_1_39) h4 dX0_become_16 ?_
  refine lv_iconst (v := 0) hx hb dX0_become_19 (by decide) ?_
  refine lv_aload_n hx hb dX0_become_20 rfl (lv_at hl 0 rfl) ?_
  obtain ⟨x5, h5, hf⟩ := Option.bind_eq_some_iff.mp hf
  refine r_gR hx hb hts inX0 hown hK hR rfl 1 (by decide) (hts _ tw_1_39) h5 dX0_become_21 ?_
  refine lv_iconst (v := 0) hx hb dX0_become_24 (by decide) ?_
  refine lv_bipush (v := 8) hx hb dX0_become_25 (by decide) ?_
  obtain ⟨x6, h6, hf⟩ := Option.bind_eq_some_iff.mp hf
  refine w_cpI hx hb (hml.trans hl.1.symm) hown (hts _ tw_1_179) (hts _ tw_1_181) (hts _ tw_1_180) (hts _ tw_1_6) hK hR hS h6 (Nat.le_of_ble_eq_true rfl) (Nat.le_of_ble_eq_true rfl) dX0_become_27 (fun H locs hR hS => ?_)
  refine lv_aload_n hx hb dX0_become_30 rfl (lv_at hl 1 rfl) ?_
  obtain ⟨x7, h7, hf⟩ := Option.bind_eq_some_iff.mp hf
  refine r_gR hx hb hts inX0 hown hK hR rfl 2 (by decide) (hts _ tw_1_43) h7 dX0_become_31 ?_
  refine lv_iconst (v := 0) hx hb dX0_become_34 (by decide) ?_
  refine lv_aload_n hx hb dX0_become_35 rfl (lv_at hl 0 rfl) ?_
  obtain ⟨x8, h8, hf⟩ := Option.bind_eq_some_iff.mp hf
  refine r_gR hx hb hts inX0 hown hK hR rfl 2 (by decide) (hts _ tw_1_43) h8 dX0_become_36 ?_
  refine lv_iconst (v := 0) hx hb dX0_become_39 (by decide) ?_
  refine lv_bipush (v := 8) hx hb dX0_become_40 (by decide) ?_
  obtain ⟨x9, h9, hf⟩ := Option.bind_eq_some_iff.mp hf
  refine w_cpI hx hb (hml.trans hl.1.symm) hown (hts _ tw_1_179) (hts _ tw_1_181) (hts _ tw_1_180) (hts _ tw_1_6) hK hR hS h9 (Nat.le_of_ble_eq_true rfl) (Nat.le_of_ble_eq_true rfl) dX0_become_42 (fun H locs hR hS => ?_)
  refine lv_aload_n hx hb dX0_become_45 rfl (lv_at hl 1 rfl) ?_
  obtain ⟨x10, h10, hf⟩ := Option.bind_eq_some_iff.mp hf
  refine r_gR hx hb hts inX0 hown hK hR rfl 3 (by decide) (hts _ tw_1_45) h10 dX0_become_46 ?_
  refine lv_iconst (v := 0) hx hb dX0_become_49 (by decide) ?_
  refine lv_aload_n hx hb dX0_become_50 rfl (lv_at hl 0 rfl) ?_
  obtain ⟨x11, h11, hf⟩ := Option.bind_eq_some_iff.mp hf
  refine r_gR hx hb hts inX0 hown hK hR rfl 3 (by decide) (hts _ tw_1_45) h11 dX0_become_51 ?_
  refine lv_iconst (v := 0) hx hb dX0_become_54 (by decide) ?_
  refine lv_bipush (v := 8) hx hb dX0_become_55 (by decide) ?_
  obtain ⟨x12, h12, hf⟩ := Option.bind_eq_some_iff.mp hf
  refine w_cpI hx hb (hml.trans hl.1.symm) hown (hts _ tw_1_179) (hts _ tw_1_181) (hts _ tw_1_180) (hts _ tw_1_6) hK hR hS h12 (Nat.le_of_ble_eq_true rfl) (Nat.le_of_ble_eq_true rfl) dX0_become_57 (fun H locs hR hS => ?_)
  refine lv_aload_n hx hb dX0_become_60 rfl (lv_at hl 1 rfl) ?_
  obtain ⟨x13, h13, hf⟩ := Option.bind_eq_some_iff.mp hf
  refine r_gR hx hb hts inX0 hown hK hR rfl 4 (by decide) (hts _ tw_1_47) h13 dX0_become_61 ?_
  refine lv_iconst (v := 0) hx hb dX0_become_64 (by decide) ?_
  refine lv_aload_n hx hb dX0_become_65 rfl (lv_at hl 0 rfl) ?_
  obtain ⟨x14, h14, hf⟩ := Option.bind_eq_some_iff.mp hf
  refine r_gR hx hb hts inX0 hown hK hR rfl 4 (by decide) (hts _ tw_1_47) h14 dX0_become_66 ?_
  refine lv_iconst (v := 0) hx hb dX0_become_69 (by decide) ?_
  refine lv_iconst (v := 4) hx hb dX0_become_70 (by decide) ?_
  obtain ⟨x15, h15, hf⟩ := Option.bind_eq_some_iff.mp hf
  refine w_cpI hx hb (hml.trans hl.1.symm) hown (hts _ tw_1_179) (hts _ tw_1_181) (hts _ tw_1_180) (hts _ tw_1_6) hK hR hS h15 (Nat.le_of_ble_eq_true rfl) (Nat.le_of_ble_eq_true rfl) dX0_become_71 (fun H locs hR hS => ?_)
  refine lv_aload_n hx hb dX0_become_74 rfl (lv_at hl 0 rfl) ?_
  refine lv_aload_n hx hb dX0_become_75 rfl (lv_at hl 1 rfl) ?_
  obtain ⟨x16, h16, hf⟩ := Option.bind_eq_some_iff.mp hf
  refine r_gI hx hb hts inX0 hown hK hR rfl 5 (by decide) (hts _ tw_1_48) h16 dX0_become_76 ?_
  obtain ⟨x17, h17, hf⟩ := Option.bind_eq_some_iff.mp hf
  refine w_ptV hx hb hts inX0 tyX0 tyX0_ok nmX0 hown hK hR hS rfl 5 (by decide) (hts _ tw_1_48) rfl (ty := .int) rfl rfl rfl h17 dX0_become_79 (fun H locs hR hS => ?_)
  refine lv_aload_n hx hb dX0_become_82 rfl (lv_at hl 0 rfl) ?_
  refine lv_aload_n hx hb dX0_become_83 rfl (lv_at hl 1 rfl) ?_
  obtain ⟨x18, h18, hf⟩ := Option.bind_eq_some_iff.mp hf
  refine r_gI hx hb hts inX0 hown hK hR rfl 6 (by decide) (hts _ tw_1_54) h18 dX0_become_84 ?_
  obtain ⟨x19, h19, hf⟩ := Option.bind_eq_some_iff.mp hf
  refine w_ptV hx hb hts inX0 tyX0 tyX0_ok nmX0 hown hK hR hS rfl 6 (by decide) (hts _ tw_1_54) rfl (ty := .int) rfl rfl rfl h19 dX0_become_87 (fun H locs hR hS => ?_)
  refine lv_aload_n hx hb dX0_become_90 rfl (lv_at hl 0 rfl) ?_
  refine lv_aload_n hx hb dX0_become_91 rfl (lv_at hl 1 rfl) ?_
  obtain ⟨x20, h20, hf⟩ := Option.bind_eq_some_iff.mp hf
  refine r_gI hx hb hts inX0 hown hK hR rfl 7 (by decide) (hts _ tw_1_58) h20 dX0_become_92 ?_
  obtain ⟨x21, h21, hf⟩ := Option.bind_eq_some_iff.mp hf
  refine w_ptV hx hb hts inX0 tyX0 tyX0_ok nmX0 hown hK hR hS rfl 7 (by decide) (hts _ tw_1_58) rfl (ty := .int) rfl rfl rfl h21 dX0_become_95 (fun H locs hR hS => ?_)
  refine lv_aload_n hx hb dX0_become_98 rfl (lv_at hl 0 rfl) ?_
  refine lv_aload_n hx hb dX0_become_99 rfl (lv_at hl 1 rfl) ?_
  obtain ⟨x22, h22, hf⟩ := Option.bind_eq_some_iff.mp hf
  refine r_gI hx hb hts inX0 hown hK hR rfl 8 (by decide) (hts _ tw_1_63) h22 dX0_become_100 ?_
  obtain ⟨x23, h23, hf⟩ := Option.bind_eq_some_iff.mp hf
  refine w_ptV hx hb hts inX0 tyX0 tyX0_ok nmX0 hown hK hR hS rfl 8 (by decide) (hts _ tw_1_63) rfl (ty := .int) rfl rfl rfl h23 dX0_become_103 (fun H locs hR hS => ?_)
  refine lv_aload_n hx hb dX0_become_106 rfl (lv_at hl 0 rfl) ?_
  refine lv_aload_n hx hb dX0_become_107 rfl (lv_at hl 1 rfl) ?_
  obtain ⟨x24, h24, hf⟩ := Option.bind_eq_some_iff.mp hf
  refine r_gI hx hb hts inX0 hown hK hR rfl 9 (by decide) (hts _ tw_1_65) h24 dX0_become_108 ?_
  obtain ⟨x25, h25, hf⟩ := Option.bind_eq_some_iff.mp hf
  refine w_ptV hx hb hts inX0 tyX0 tyX0_ok nmX0 hown hK hR hS rfl 9 (by decide) (hts _ tw_1_65) rfl (ty := .int) rfl rfl rfl h25 dX0_become_111 (fun H locs hR hS => ?_)
  refine lv_aload_n hx hb dX0_become_114 rfl (lv_at hl 0 rfl) ?_
  refine lv_aload_n hx hb dX0_become_115 rfl (lv_at hl 1 rfl) ?_
  obtain ⟨x26, h26, hf⟩ := Option.bind_eq_some_iff.mp hf
  refine r_gI hx hb hts inX0 hown hK hR rfl 10 (by decide) (hts _ tw_1_68) h26 dX0_become_116 ?_
  obtain ⟨x27, h27, hf⟩ := Option.bind_eq_some_iff.mp hf
  refine w_ptV hx hb hts inX0 tyX0 tyX0_ok nmX0 hown hK hR hS rfl 10 (by decide) (hts _ tw_1_68) rfl (ty := .int) rfl rfl rfl h27 dX0_become_119 (fun H locs hR hS => ?_)
  exact hret _ _ _ _ _ dX0_become_122 hR hS hf
/-! BrickedUpAsBlind.House.isWithin(III)Z -/
def fX0_isWithin (ρ : Rho) (v0 : Int32) (v1 : Int32) (v2 : Int32) : Option Int32 :=
    if v0 < v1 then (nb 0)
    else (if v2 < v0 then (nb 0)
    else (nb 1))
abbrev rX0_isWithin : Room := { frames := 0, cells := 0, slots := 0, locals := 0 }
theorem hdX0_isWithin : hdP yX0_isWithin 3 := by unfold hdP; decide +kernel
set_option maxHeartbeats 4000000 in
set_option maxRecDepth 100000 in
theorem kX0_isWithin (l : Launch) (G : GD) (ρ : Rho) (v0 : Int32) (v1 : Int32) (v2 : Int32) (r : Int32) (hf : fX0_isWithin ρ v0 v1 v2 = some r) : RM l G yX0_isWithin (Cond.code yX0_isWithin cX0_isWithin 3 (some .boolean) :: LW) rX0_isWithin ρ [.int v0, .int v1, .int v2] (some (.int r)) := by
  refine RM.ofZ (own := RX0) (by decide) rfl (Nat.le_of_ble_eq_true rfl) ?_
  intro p e s m args below meth c H locs Q hx hb hml hown hts hK hR hret ls hl
  replace hl : lv_has ls 3 [(0, .int v0), (1, .int v1), (2, .int v2)] := hl
  unfold fX0_isWithin at hf
  refine lv_iload_n hx hb dX0_isWithin_0 rfl (lv_at hl 0 rfl) ?_
  refine lv_iload_n hx hb dX0_isWithin_1 rfl (lv_at hl 1 rfl) ?_
  refine lv_icmp_lt (tgt := 14) hx hb dX0_isWithin_2 (by decide) (fun c1 => ?_) (fun c1 => ?_)
  · replace hf := (if_pos c1).symm.trans hf
    refine lv_iconst (v := 0) hx hb dX0_isWithin_14 (by decide) ?_
    exact hret _ _ _ dX0_isWithin_15 hf
  · replace hf := (if_neg c1).symm.trans hf
    refine lv_iload_n hx hb dX0_isWithin_5 rfl (lv_at hl 0 rfl) ?_
    refine lv_iload_n hx hb dX0_isWithin_6 rfl (lv_at hl 2 rfl) ?_
    refine lv_icmp_gt (tgt := 14) hx hb dX0_isWithin_7 (by decide) (fun c2 => ?_) (fun c2 => ?_)
    · replace hf := (if_pos c2).symm.trans hf
      refine lv_iconst (v := 0) hx hb dX0_isWithin_14 (by decide) ?_
      exact hret _ _ _ dX0_isWithin_15 hf
    · replace hf := (if_neg c2).symm.trans hf
      refine lv_iconst (v := 1) hx hb dX0_isWithin_10 (by decide) ?_
      refine lv_goto (tgt := 15) hx hb dX0_isWithin_11 (by decide) ?_
      exact hret _ _ _ dX0_isWithin_15 hf
/-! BrickedUpAsBlind.House.isRoom(I)Z -/
def fX0_isRoom (ρ : Rho) (v0 : Int32) : Option Int32 :=
    (fX0_isWithin ρ v0 0 3).bind fun x1 =>
    nb x1
abbrev rX0_isRoom : Room := { frames := 1, cells := 0, slots := 0, locals := 22 }
theorem hdX0_isRoom : hdP yX0_isRoom 1 := by unfold hdP; decide +kernel
set_option maxHeartbeats 4000000 in
set_option maxRecDepth 100000 in
theorem kX0_isRoom (l : Launch) (G : GD) (ρ : Rho) (v0 : Int32) (r : Int32) (hf : fX0_isRoom ρ v0 = some r) : RM l G yX0_isRoom (Cond.code yX0_isRoom cX0_isRoom 1 (some .boolean) :: LW) rX0_isRoom ρ [.int v0] (some (.int r)) := by
  refine RM.ofZ (own := RX0) (by decide) rfl (Nat.le_of_ble_eq_true rfl) ?_
  intro p e s m args below meth c H locs Q hx hb hml hown hts hK hR hret ls hl
  replace hl : lv_has ls 1 [(0, .int v0)] := hl
  unfold fX0_isRoom at hf
  refine lv_iload_n hx hb dX0_isRoom_0 rfl (lv_at hl 0 rfl) ?_
  refine lv_iconst (v := 0) hx hb dX0_isRoom_1 (by decide) ?_
  refine lv_iconst (v := 3) hx hb dX0_isRoom_2 (by decide) ?_
  obtain ⟨x1, h1, hf⟩ := Option.bind_eq_some_iff.mp hf
  refine r_callS (As := [.int v0, .int 0, .int 3]) (rest := []) (st1 := [.int x1]) ⟨hx, hb, hml, hown, hts⟩ (kX0_isWithin l G ρ v0 0 3 _ h1) (cu_S hts tw_1_206 tw_1_204 tw_1_205 tw_1_2 hdX0_isWithin rfl rfl ⟨Nat.le_of_ble_eq_true rfl, Nat.le_of_ble_eq_true rfl⟩) hK hR rfl hl.1 rfl (Nat.le_of_ble_eq_true rfl) dX0_isRoom_3 ⟨Nat.zero_le _, Nat.zero_le _⟩ rfl ?_
  exact hret _ _ _ dX0_isRoom_6 hf
/-! BrickedUpAsBlind.House.isHour(I)Z -/
def fX0_isHour (ρ : Rho) (v0 : Int32) : Option Int32 :=
    (fX0_isWithin ρ v0 0 23).bind fun x1 =>
    nb x1
abbrev rX0_isHour : Room := { frames := 1, cells := 0, slots := 0, locals := 22 }
theorem hdX0_isHour : hdP yX0_isHour 1 := by unfold hdP; decide +kernel
set_option maxHeartbeats 4000000 in
set_option maxRecDepth 100000 in
theorem kX0_isHour (l : Launch) (G : GD) (ρ : Rho) (v0 : Int32) (r : Int32) (hf : fX0_isHour ρ v0 = some r) : RM l G yX0_isHour (Cond.code yX0_isHour cX0_isHour 1 (some .boolean) :: LW) rX0_isHour ρ [.int v0] (some (.int r)) := by
  refine RM.ofZ (own := RX0) (by decide) rfl (Nat.le_of_ble_eq_true rfl) ?_
  intro p e s m args below meth c H locs Q hx hb hml hown hts hK hR hret ls hl
  replace hl : lv_has ls 1 [(0, .int v0)] := hl
  unfold fX0_isHour at hf
  refine lv_iload_n hx hb dX0_isHour_0 rfl (lv_at hl 0 rfl) ?_
  refine lv_iconst (v := 0) hx hb dX0_isHour_1 (by decide) ?_
  refine lv_bipush (v := 23) hx hb dX0_isHour_2 (by decide) ?_
  obtain ⟨x1, h1, hf⟩ := Option.bind_eq_some_iff.mp hf
  refine r_callS (As := [.int v0, .int 0, .int 23]) (rest := []) (st1 := [.int x1]) ⟨hx, hb, hml, hown, hts⟩ (kX0_isWithin l G ρ v0 0 23 _ h1) (cu_S hts tw_1_206 tw_1_204 tw_1_205 tw_1_2 hdX0_isWithin rfl rfl ⟨Nat.le_of_ble_eq_true rfl, Nat.le_of_ble_eq_true rfl⟩) hK hR rfl hl.1 rfl (Nat.le_of_ble_eq_true rfl) dX0_isHour_4 ⟨Nat.zero_le _, Nat.zero_le _⟩ rfl ?_
  exact hret _ _ _ dX0_isHour_7 hf
/-! BrickedUpAsBlind.House.addWindow(IIII)I -/
def fX0_addWindow (ρ : Rho) (v0 : Nat) (v1 : Int32) (v2 : Int32) (v3 : Int32) (v4 : Int32) : Option (Int32 × Rho) :=
    (fX1_isKind ρ v1).bind fun x1 =>
    if x1 = 0 then (some ((-1), ρ))
    else ((fX1_isFigure ρ v2).bind fun x3 =>
    if x3 = 0 then (some ((-1), ρ))
    else ((fX0_isRoom ρ v3).bind fun x5 =>
    if x5 = 0 then (some ((-1), ρ))
    else ((fX0_isHour ρ v4).bind fun x7 =>
    if x7 = 0 then (some ((-1), ρ))
    else ((gI ρ 0 v0 5).bind fun x9 =>
    if x9 < 8 then ((gR ρ 0 v0 0).bind fun x11 =>
    (gI ρ 0 v0 5).bind fun x12 =>
    (stI ρ x11 x12 v1).bind fun x13 =>
    (gR x13 0 v0 1).bind fun x14 =>
    (gI x13 0 v0 5).bind fun x15 =>
    (stI x13 x14 x15 v2).bind fun x16 =>
    (gR x16 0 v0 2).bind fun x17 =>
    (gI x16 0 v0 5).bind fun x18 =>
    (stI x16 x17 x18 v3).bind fun x19 =>
    (gR x19 0 v0 3).bind fun x20 =>
    (gI x19 0 v0 5).bind fun x21 =>
    (stI x19 x20 x21 v4).bind fun x22 =>
    (gI x22 0 v0 5).bind fun x23 =>
    (ptV x22 0 v0 5 (.int (x23 + 1))).bind fun x24 =>
    (gI x24 0 v0 5).bind fun x25 =>
    some ((x25 - 1), x24))
    else (some ((-2), ρ))))))
abbrev rX0_addWindow : Room := { frames := 2, cells := 0, slots := 0, locals := 42 }
theorem hdX0_addWindow : hdP yX0_addWindow 4 := by unfold hdP; decide +kernel
set_option maxHeartbeats 4000000 in
set_option maxRecDepth 100000 in
theorem kX0_addWindow (l : Launch) (G : GD) (ρ : Rho) (v0 : Nat) (v1 : Int32) (v2 : Int32) (v3 : Int32) (v4 : Int32) (r0 : Int32) (ρ1 : Rho) (hf : fX0_addWindow ρ v0 v1 v2 v3 v4 = some (r0, ρ1)) : WM l G yX0_addWindow (Cond.code yX0_addWindow cX0_addWindow 5 (some .int) :: LW) rX0_addWindow ρ [.ref v0, .int v1, .int v2, .int v3, .int v4] (some (.int r0)) ρ1 := by
  obtain ⟨r, hr⟩ : ∃ r, r = (r0, ρ1) := ⟨_, rfl⟩
  rw [← hr] at hf
  refine WM.ofI (own := RX0) (r := r) hr (by decide) rfl (Nat.le_of_ble_eq_true rfl) ?_
  intro p e s m args below meth c H locs Q hx hb hml hown hts hK hR hS hret ls hl
  obtain ⟨ρ0, hρ0⟩ : ∃ z, z = ρ := ⟨_, rfl⟩
  rw [← hρ0] at hret
  replace hS : WS ρ0 s.heap ρ H locs := hρ0 ▸ hS
  replace hl : lv_has ls 5 [(0, .ref v0), (1, .int v1), (2, .int v2), (3, .int v3), (4, .int v4)] := hl
  unfold fX0_addWindow at hf
  refine lv_iload_n hx hb dX0_addWindow_0 rfl (lv_at hl 1 rfl) ?_
  obtain ⟨x1, h1, hf⟩ := Option.bind_eq_some_iff.mp hf
  refine r_callS (As := [.int v1]) (rest := []) (st1 := [.int x1]) ⟨hx, hb, hml, hown, hts⟩ (kX1_isKind l G ρ v1 _ h1) (cu_S hts tw_1_197 tw_1_195 tw_1_196 tw_1_7 hdX1_isKind rfl rfl ⟨Nat.le_of_ble_eq_true rfl, Nat.le_of_ble_eq_true rfl⟩) hK hR rfl hl.1 rfl (Nat.le_of_ble_eq_true rfl) dX0_addWindow_1 ⟨Nat.zero_le _, Nat.zero_le _⟩ rfl ?_
  refine lv_if_eq (tgt := 29) hx hb dX0_addWindow_4 (by decide) (fun c2 => ?_) (fun c2 => ?_)
  · replace hf := (if_pos c2).symm.trans hf
    refine lv_iconst (v := (-1)) hx hb dX0_addWindow_29 (by decide) ?_
    exact hret _ _ _ _ _ _ dX0_addWindow_30 hR hS hf
  · replace hf := (if_neg c2).symm.trans hf
    refine lv_iload_n hx hb dX0_addWindow_7 rfl (lv_at hl 2 rfl) ?_
    obtain ⟨x3, h3, hf⟩ := Option.bind_eq_some_iff.mp hf
    refine r_callS (As := [.int v2]) (rest := []) (st1 := [.int x3]) ⟨hx, hb, hml, hown, hts⟩ (kX1_isFigure l G ρ v2 _ h3) (cu_S hts tw_1_200 tw_1_198 tw_1_199 tw_1_7 hdX1_isFigure rfl rfl ⟨Nat.le_of_ble_eq_true rfl, Nat.le_of_ble_eq_true rfl⟩) hK hR rfl hl.1 rfl (Nat.le_of_ble_eq_true rfl) dX0_addWindow_8 ⟨Nat.zero_le _, Nat.zero_le _⟩ rfl ?_
    refine lv_if_eq (tgt := 29) hx hb dX0_addWindow_11 (by decide) (fun c4 => ?_) (fun c4 => ?_)
    · replace hf := (if_pos c4).symm.trans hf
      refine lv_iconst (v := (-1)) hx hb dX0_addWindow_29 (by decide) ?_
      exact hret _ _ _ _ _ _ dX0_addWindow_30 hR hS hf
    · replace hf := (if_neg c4).symm.trans hf
      refine lv_iload_n hx hb dX0_addWindow_14 rfl (lv_at hl 3 rfl) ?_
      obtain ⟨x5, h5, hf⟩ := Option.bind_eq_some_iff.mp hf
      refine r_callS (As := [.int v3]) (rest := []) (st1 := [.int x5]) ⟨hx, hb, hml, hown, hts⟩ (kX0_isRoom l G ρ v3 _ h5) (cu_S hts tw_1_203 tw_1_201 tw_1_202 tw_1_2 hdX0_isRoom rfl rfl ⟨Nat.le_of_ble_eq_true rfl, Nat.le_of_ble_eq_true rfl⟩) hK hR rfl hl.1 rfl (Nat.le_of_ble_eq_true rfl) dX0_addWindow_15 ⟨Nat.zero_le _, Nat.zero_le _⟩ rfl ?_
      refine lv_if_eq (tgt := 29) hx hb dX0_addWindow_18 (by decide) (fun c6 => ?_) (fun c6 => ?_)
      · replace hf := (if_pos c6).symm.trans hf
        refine lv_iconst (v := (-1)) hx hb dX0_addWindow_29 (by decide) ?_
        exact hret _ _ _ _ _ _ dX0_addWindow_30 hR hS hf
      · replace hf := (if_neg c6).symm.trans hf
        refine lv_iload hx hb dX0_addWindow_21 (lv_at hl 4 rfl) ?_
        obtain ⟨x7, h7, hf⟩ := Option.bind_eq_some_iff.mp hf
        refine r_callS (As := [.int v4]) (rest := []) (st1 := [.int x7]) ⟨hx, hb, hml, hown, hts⟩ (kX0_isHour l G ρ v4 _ h7) (cu_S hts tw_1_209 tw_1_207 tw_1_208 tw_1_2 hdX0_isHour rfl rfl ⟨Nat.le_of_ble_eq_true rfl, Nat.le_of_ble_eq_true rfl⟩) hK hR rfl hl.1 rfl (Nat.le_of_ble_eq_true rfl) dX0_addWindow_23 ⟨Nat.zero_le _, Nat.zero_le _⟩ rfl ?_
        refine lv_if_ne (tgt := 31) hx hb dX0_addWindow_26 (by decide) (fun c8 => ?_) (fun c8 => ?_)
        · replace hf := (if_neg c8).symm.trans hf
          refine lv_aload_n hx hb dX0_addWindow_31 rfl (lv_at hl 0 rfl) ?_
          obtain ⟨x9, h9, hf⟩ := Option.bind_eq_some_iff.mp hf
          refine r_gI hx hb hts inX0 hown hK hR rfl 5 (by decide) (hts _ tw_1_48) h9 dX0_addWindow_32 ?_
          refine lv_bipush (v := 8) hx hb dX0_addWindow_35 (by decide) ?_
          refine lv_icmp_lt (tgt := 43) hx hb dX0_addWindow_37 (by decide) (fun c10 => ?_) (fun c10 => ?_)
          · replace hf := (if_pos c10).symm.trans hf
            refine lv_aload_n hx hb dX0_addWindow_43 rfl (lv_at hl 0 rfl) ?_
            obtain ⟨x11, h11, hf⟩ := Option.bind_eq_some_iff.mp hf
            refine r_gR hx hb hts inX0 hown hK hR rfl 0 (by decide) (hts _ tw_1_35) h11 dX0_addWindow_44 ?_
            refine lv_aload_n hx hb dX0_addWindow_47 rfl (lv_at hl 0 rfl) ?_
            obtain ⟨x12, h12, hf⟩ := Option.bind_eq_some_iff.mp hf
            refine r_gI hx hb hts inX0 hown hK hR rfl 5 (by decide) (hts _ tw_1_48) h12 dX0_addWindow_48 ?_
            refine lv_iload_n hx hb dX0_addWindow_51 rfl (lv_at hl 1 rfl) ?_
            obtain ⟨x13, h13, hf⟩ := Option.bind_eq_some_iff.mp hf
            refine w_stI hx hb hK hR hS h13 dX0_addWindow_52 (fun H locs hR hS => ?_)
            refine lv_aload_n hx hb dX0_addWindow_53 rfl (lv_at hl 0 rfl) ?_
            obtain ⟨x14, h14, hf⟩ := Option.bind_eq_some_iff.mp hf
            refine r_gR hx hb hts inX0 hown hK hR rfl 1 (by decide) (hts _ tw_1_39) h14 dX0_addWindow_54 ?_
            refine lv_aload_n hx hb dX0_addWindow_57 rfl (lv_at hl 0 rfl) ?_
            obtain ⟨x15, h15, hf⟩ := Option.bind_eq_some_iff.mp hf
            refine r_gI hx hb hts inX0 hown hK hR rfl 5 (by decide) (hts _ tw_1_48) h15 dX0_addWindow_58 ?_
            refine lv_iload_n hx hb dX0_addWindow_61 rfl (lv_at hl 2 rfl) ?_
            obtain ⟨x16, h16, hf⟩ := Option.bind_eq_some_iff.mp hf
            refine w_stI hx hb hK hR hS h16 dX0_addWindow_62 (fun H locs hR hS => ?_)
            refine lv_aload_n hx hb dX0_addWindow_63 rfl (lv_at hl 0 rfl) ?_
            obtain ⟨x17, h17, hf⟩ := Option.bind_eq_some_iff.mp hf
            refine r_gR hx hb hts inX0 hown hK hR rfl 2 (by decide) (hts _ tw_1_43) h17 dX0_addWindow_64 ?_
            refine lv_aload_n hx hb dX0_addWindow_67 rfl (lv_at hl 0 rfl) ?_
            obtain ⟨x18, h18, hf⟩ := Option.bind_eq_some_iff.mp hf
            refine r_gI hx hb hts inX0 hown hK hR rfl 5 (by decide) (hts _ tw_1_48) h18 dX0_addWindow_68 ?_
            refine lv_iload_n hx hb dX0_addWindow_71 rfl (lv_at hl 3 rfl) ?_
            obtain ⟨x19, h19, hf⟩ := Option.bind_eq_some_iff.mp hf
            refine w_stI hx hb hK hR hS h19 dX0_addWindow_72 (fun H locs hR hS => ?_)
            refine lv_aload_n hx hb dX0_addWindow_73 rfl (lv_at hl 0 rfl) ?_
            obtain ⟨x20, h20, hf⟩ := Option.bind_eq_some_iff.mp hf
            refine r_gR hx hb hts inX0 hown hK hR rfl 3 (by decide) (hts _ tw_1_45) h20 dX0_addWindow_74 ?_
            refine lv_aload_n hx hb dX0_addWindow_77 rfl (lv_at hl 0 rfl) ?_
            obtain ⟨x21, h21, hf⟩ := Option.bind_eq_some_iff.mp hf
            refine r_gI hx hb hts inX0 hown hK hR rfl 5 (by decide) (hts _ tw_1_48) h21 dX0_addWindow_78 ?_
            refine lv_iload hx hb dX0_addWindow_81 (lv_at hl 4 rfl) ?_
            obtain ⟨x22, h22, hf⟩ := Option.bind_eq_some_iff.mp hf
            refine w_stI hx hb hK hR hS h22 dX0_addWindow_83 (fun H locs hR hS => ?_)
            refine lv_aload_n hx hb dX0_addWindow_84 rfl (lv_at hl 0 rfl) ?_
            refine lv_dup hx hb dX0_addWindow_85 rfl ?_
            obtain ⟨x23, h23, hf⟩ := Option.bind_eq_some_iff.mp hf
            refine r_gI hx hb hts inX0 hown hK hR rfl 5 (by decide) (hts _ tw_1_48) h23 dX0_addWindow_86 ?_
            refine lv_iconst (v := 1) hx hb dX0_addWindow_89 (by decide) ?_
            refine lv_iadd hx hb dX0_addWindow_90 ?_
            obtain ⟨x24, h24, hf⟩ := Option.bind_eq_some_iff.mp hf
            refine w_ptV hx hb hts inX0 tyX0 tyX0_ok nmX0 hown hK hR hS rfl 5 (by decide) (hts _ tw_1_48) rfl (ty := .int) rfl rfl rfl h24 dX0_addWindow_91 (fun H locs hR hS => ?_)
            refine lv_aload_n hx hb dX0_addWindow_94 rfl (lv_at hl 0 rfl) ?_
            obtain ⟨x25, h25, hf⟩ := Option.bind_eq_some_iff.mp hf
            refine r_gI hx hb hts inX0 hown hK hR rfl 5 (by decide) (hts _ tw_1_48) h25 dX0_addWindow_95 ?_
            refine lv_iconst (v := 1) hx hb dX0_addWindow_98 (by decide) ?_
            refine lv_isub hx hb dX0_addWindow_99 ?_
            exact hret _ _ _ _ _ _ dX0_addWindow_100 hR hS hf
          · replace hf := (if_neg c10).symm.trans hf
            refine lv_bipush (v := (-2)) hx hb dX0_addWindow_40 (by decide) ?_
            exact hret _ _ _ _ _ _ dX0_addWindow_42 hR hS hf
        · replace hf := (if_pos c8).symm.trans hf
          refine lv_iconst (v := (-1)) hx hb dX0_addWindow_29 (by decide) ?_
          exact hret _ _ _ _ _ _ dX0_addWindow_30 hR hS hf
/-! BrickedUpAsBlind.House.changeNeed(II)I -/
def fX0_changeNeed (ρ : Rho) (v0 : Nat) (v1 : Int32) (v2 : Int32) : Option (Int32 × Rho) :=
    (fX0_isRoom ρ v1).bind fun x1 =>
    if x1 = 0 then (some ((-1), ρ))
    else ((fX0_isWithin ρ v2 0 20).bind fun x3 =>
    if x3 = 0 then (some ((-1), ρ))
    else ((gR ρ 0 v0 4).bind fun x5 =>
    (ldI ρ x5 v1).bind fun x6 =>
    (gR ρ 0 v0 4).bind fun x7 =>
    (stI ρ x7 v1 v2).bind fun x8 =>
    some (x6, x8)))
abbrev rX0_changeNeed : Room := { frames := 2, cells := 0, slots := 0, locals := 42 }
theorem hdX0_changeNeed : hdP yX0_changeNeed 2 := by unfold hdP; decide +kernel
set_option maxHeartbeats 4000000 in
set_option maxRecDepth 100000 in
theorem kX0_changeNeed (l : Launch) (G : GD) (ρ : Rho) (v0 : Nat) (v1 : Int32) (v2 : Int32) (r0 : Int32) (ρ1 : Rho) (hf : fX0_changeNeed ρ v0 v1 v2 = some (r0, ρ1)) : WM l G yX0_changeNeed (Cond.code yX0_changeNeed cX0_changeNeed 4 (some .int) :: LW) rX0_changeNeed ρ [.ref v0, .int v1, .int v2] (some (.int r0)) ρ1 := by
  obtain ⟨r, hr⟩ : ∃ r, r = (r0, ρ1) := ⟨_, rfl⟩
  rw [← hr] at hf
  refine WM.ofI (own := RX0) (r := r) hr (by decide) rfl (Nat.le_of_ble_eq_true rfl) ?_
  intro p e s m args below meth c H locs Q hx hb hml hown hts hK hR hS hret ls hl
  obtain ⟨ρ0, hρ0⟩ : ∃ z, z = ρ := ⟨_, rfl⟩
  rw [← hρ0] at hret
  replace hS : WS ρ0 s.heap ρ H locs := hρ0 ▸ hS
  replace hl : lv_has ls 4 [(0, .ref v0), (1, .int v1), (2, .int v2)] := hl
  unfold fX0_changeNeed at hf
  refine lv_iload_n hx hb dX0_changeNeed_0 rfl (lv_at hl 1 rfl) ?_
  obtain ⟨x1, h1, hf⟩ := Option.bind_eq_some_iff.mp hf
  refine r_callS (As := [.int v1]) (rest := []) (st1 := [.int x1]) ⟨hx, hb, hml, hown, hts⟩ (kX0_isRoom l G ρ v1 _ h1) (cu_S hts tw_1_203 tw_1_201 tw_1_202 tw_1_2 hdX0_isRoom rfl rfl ⟨Nat.le_of_ble_eq_true rfl, Nat.le_of_ble_eq_true rfl⟩) hK hR rfl hl.1 rfl (Nat.le_of_ble_eq_true rfl) dX0_changeNeed_1 ⟨Nat.zero_le _, Nat.zero_le _⟩ rfl ?_
  refine lv_if_eq (tgt := 17) hx hb dX0_changeNeed_4 (by decide) (fun c2 => ?_) (fun c2 => ?_)
  · replace hf := (if_pos c2).symm.trans hf
    refine lv_iconst (v := (-1)) hx hb dX0_changeNeed_17 (by decide) ?_
    exact hret _ _ _ _ _ _ dX0_changeNeed_18 hR hS hf
  · replace hf := (if_neg c2).symm.trans hf
    refine lv_iload_n hx hb dX0_changeNeed_7 rfl (lv_at hl 2 rfl) ?_
    refine lv_iconst (v := 0) hx hb dX0_changeNeed_8 (by decide) ?_
    refine lv_bipush (v := 20) hx hb dX0_changeNeed_9 (by decide) ?_
    obtain ⟨x3, h3, hf⟩ := Option.bind_eq_some_iff.mp hf
    refine r_callS (As := [.int v2, .int 0, .int 20]) (rest := []) (st1 := [.int x3]) ⟨hx, hb, hml, hown, hts⟩ (kX0_isWithin l G ρ v2 0 20 _ h3) (cu_S hts tw_1_206 tw_1_204 tw_1_205 tw_1_2 hdX0_isWithin rfl rfl ⟨Nat.le_of_ble_eq_true rfl, Nat.le_of_ble_eq_true rfl⟩) hK hR rfl hl.1 rfl (Nat.le_of_ble_eq_true rfl) dX0_changeNeed_11 ⟨Nat.zero_le _, Nat.zero_le _⟩ rfl ?_
    refine lv_if_ne (tgt := 19) hx hb dX0_changeNeed_14 (by decide) (fun c4 => ?_) (fun c4 => ?_)
    · replace hf := (if_neg c4).symm.trans hf
      refine lv_aload_n hx hb dX0_changeNeed_19 rfl (lv_at hl 0 rfl) ?_
      obtain ⟨x5, h5, hf⟩ := Option.bind_eq_some_iff.mp hf
      refine r_gR hx hb hts inX0 hown hK hR rfl 4 (by decide) (hts _ tw_1_47) h5 dX0_changeNeed_20 ?_
      refine lv_iload_n hx hb dX0_changeNeed_23 rfl (lv_at hl 1 rfl) ?_
      obtain ⟨x6, h6, hf⟩ := Option.bind_eq_some_iff.mp hf
      refine r_ldI hx hb hK hR h6 dX0_changeNeed_24 ?_
      refine lv_istore_n (lv' := [(3, .int x6), (0, .ref v0), (1, .int v1), (2, .int v2)]) hx hb dX0_changeNeed_25 rfl hl (by decide) rfl (fun ls hl => ?_)
      refine lv_aload_n hx hb dX0_changeNeed_26 rfl (lv_at hl 1 rfl) ?_
      obtain ⟨x7, h7, hf⟩ := Option.bind_eq_some_iff.mp hf
      refine r_gR hx hb hts inX0 hown hK hR rfl 4 (by decide) (hts _ tw_1_47) h7 dX0_changeNeed_27 ?_
      refine lv_iload_n hx hb dX0_changeNeed_30 rfl (lv_at hl 2 rfl) ?_
      refine lv_iload_n hx hb dX0_changeNeed_31 rfl (lv_at hl 3 rfl) ?_
      obtain ⟨x8, h8, hf⟩ := Option.bind_eq_some_iff.mp hf
      refine w_stI hx hb hK hR hS h8 dX0_changeNeed_32 (fun H locs hR hS => ?_)
      refine lv_iload_n hx hb dX0_changeNeed_33 rfl (lv_at hl 0 rfl) ?_
      exact hret _ _ _ _ _ _ dX0_changeNeed_34 hR hS hf
    · replace hf := (if_pos c4).symm.trans hf
      refine lv_iconst (v := (-1)) hx hb dX0_changeNeed_17 (by decide) ?_
      exact hret _ _ _ _ _ _ dX0_changeNeed_18 hR hS hf
/-! BrickedUpAsBlind.House.isWindow(I)Z -/
def fX0_isWindow (ρ : Rho) (v0 : Nat) (v1 : Int32) : Option Int32 :=
    if v1 < 0 then (nb 0)
    else ((gI ρ 0 v0 5).bind fun x2 =>
    if x2 ≤ v1 then (nb 0)
    else (nb 1))
abbrev rX0_isWindow : Room := { frames := 0, cells := 0, slots := 0, locals := 0 }
theorem hdX0_isWindow : hdP yX0_isWindow 1 := by unfold hdP; decide +kernel
set_option maxHeartbeats 4000000 in
set_option maxRecDepth 100000 in
theorem kX0_isWindow (l : Launch) (G : GD) (ρ : Rho) (v0 : Nat) (v1 : Int32) (r : Int32) (hf : fX0_isWindow ρ v0 v1 = some r) : RM l G yX0_isWindow (Cond.code yX0_isWindow cX0_isWindow 2 (some .boolean) :: LW) rX0_isWindow ρ [.ref v0, .int v1] (some (.int r)) := by
  refine RM.ofZ (own := RX0) (by decide) rfl (Nat.le_of_ble_eq_true rfl) ?_
  intro p e s m args below meth c H locs Q hx hb hml hown hts hK hR hret ls hl
  replace hl : lv_has ls 2 [(0, .ref v0), (1, .int v1)] := hl
  unfold fX0_isWindow at hf
  refine lv_iload_n hx hb dX0_isWindow_0 rfl (lv_at hl 1 rfl) ?_
  refine lv_if_lt (tgt := 16) hx hb dX0_isWindow_1 (by decide) (fun c1 => ?_) (fun c1 => ?_)
  · replace hf := (if_pos c1).symm.trans hf
    refine lv_iconst (v := 0) hx hb dX0_isWindow_16 (by decide) ?_
    exact hret _ _ _ dX0_isWindow_17 hf
  · replace hf := (if_neg c1).symm.trans hf
    refine lv_iload_n hx hb dX0_isWindow_4 rfl (lv_at hl 1 rfl) ?_
    refine lv_aload_n hx hb dX0_isWindow_5 rfl (lv_at hl 0 rfl) ?_
    obtain ⟨x2, h2, hf⟩ := Option.bind_eq_some_iff.mp hf
    refine r_gI hx hb hts inX0 hown hK hR rfl 5 (by decide) (hts _ tw_1_48) h2 dX0_isWindow_6 ?_
    refine lv_icmp_ge (tgt := 16) hx hb dX0_isWindow_9 (by decide) (fun c3 => ?_) (fun c3 => ?_)
    · replace hf := (if_pos c3).symm.trans hf
      refine lv_iconst (v := 0) hx hb dX0_isWindow_16 (by decide) ?_
      exact hret _ _ _ dX0_isWindow_17 hf
    · replace hf := (if_neg c3).symm.trans hf
      refine lv_iconst (v := 1) hx hb dX0_isWindow_12 (by decide) ?_
      refine lv_goto (tgt := 17) hx hb dX0_isWindow_13 (by decide) ?_
      exact hret _ _ _ dX0_isWindow_17 hf
/-! BrickedUpAsBlind.House.isStopped(I)Z -/
def fX0_isStopped (ρ : Rho) (v0 : Nat) (v1 : Int32) : Option Int32 :=
    (gI ρ 0 v0 6).bind fun x1 =>
    if ((x1 >>> (v1 &&& 31)) &&& 1) = 0 then (nb 0)
    else (nb 1)
abbrev rX0_isStopped : Room := { frames := 0, cells := 0, slots := 0, locals := 0 }
theorem hdX0_isStopped : hdP yX0_isStopped 1 := by unfold hdP; decide +kernel
set_option maxHeartbeats 4000000 in
set_option maxRecDepth 100000 in
theorem kX0_isStopped (l : Launch) (G : GD) (ρ : Rho) (v0 : Nat) (v1 : Int32) (r : Int32) (hf : fX0_isStopped ρ v0 v1 = some r) : RM l G yX0_isStopped (Cond.code yX0_isStopped cX0_isStopped 2 (some .boolean) :: LW) rX0_isStopped ρ [.ref v0, .int v1] (some (.int r)) := by
  refine RM.ofZ (own := RX0) (by decide) rfl (Nat.le_of_ble_eq_true rfl) ?_
  intro p e s m args below meth c H locs Q hx hb hml hown hts hK hR hret ls hl
  replace hl : lv_has ls 2 [(0, .ref v0), (1, .int v1)] := hl
  unfold fX0_isStopped at hf
  refine lv_aload_n hx hb dX0_isStopped_0 rfl (lv_at hl 0 rfl) ?_
  obtain ⟨x1, h1, hf⟩ := Option.bind_eq_some_iff.mp hf
  refine r_gI hx hb hts inX0 hown hK hR rfl 6 (by decide) (hts _ tw_1_54) h1 dX0_isStopped_1 ?_
  refine lv_iload_n hx hb dX0_isStopped_4 rfl (lv_at hl 1 rfl) ?_
  refine lv_ishr hx hb dX0_isStopped_5 ?_
  refine lv_iconst (v := 1) hx hb dX0_isStopped_6 (by decide) ?_
  refine lv_iand hx hb dX0_isStopped_7 ?_
  refine lv_if_eq (tgt := 15) hx hb dX0_isStopped_8 (by decide) (fun c2 => ?_) (fun c2 => ?_)
  · replace hf := (if_pos c2).symm.trans hf
    refine lv_iconst (v := 0) hx hb dX0_isStopped_15 (by decide) ?_
    exact hret _ _ _ dX0_isStopped_16 hf
  · replace hf := (if_neg c2).symm.trans hf
    refine lv_iconst (v := 1) hx hb dX0_isStopped_11 (by decide) ?_
    refine lv_goto (tgt := 16) hx hb dX0_isStopped_12 (by decide) ?_
    exact hret _ _ _ dX0_isStopped_16 hf
/-! BrickedUpAsBlind.House.turnStopped(I)I -/
def fX0_turnStopped (ρ : Rho) (v0 : Nat) (v1 : Int32) : Option (Int32 × Rho) :=
    (ckO ρ 0 v0).bind fun x1 =>
    (fX0_isWindow ρ v0 v1).bind fun x2 =>
    if x2 = 0 then (some ((-1), ρ))
    else ((gI ρ 0 v0 6).bind fun x4 =>
    (ptV ρ 0 v0 6 (.int (x4 ^^^ ((1 : Int32) <<< (v1 &&& 31))))).bind fun x5 =>
    (ckO x5 0 v0).bind fun x6 =>
    (fX0_isStopped x5 v0 v1).bind fun x7 =>
    if x7 = 0 then (some (0, x5))
    else (some (1, x5)))
abbrev rX0_turnStopped : Room := { frames := 1, cells := 0, slots := 0, locals := 21 }
theorem hdX0_turnStopped : hdP yX0_turnStopped 1 := by unfold hdP; decide +kernel
set_option maxHeartbeats 4000000 in
set_option maxRecDepth 100000 in
theorem kX0_turnStopped (l : Launch) (G : GD) (ρ : Rho) (v0 : Nat) (v1 : Int32) (r0 : Int32) (ρ1 : Rho) (hf : fX0_turnStopped ρ v0 v1 = some (r0, ρ1)) : WM l G yX0_turnStopped (Cond.code yX0_turnStopped cX0_turnStopped 2 (some .int) :: LW) rX0_turnStopped ρ [.ref v0, .int v1] (some (.int r0)) ρ1 := by
  obtain ⟨r, hr⟩ : ∃ r, r = (r0, ρ1) := ⟨_, rfl⟩
  rw [← hr] at hf
  refine WM.ofI (own := RX0) (r := r) hr (by decide) rfl (Nat.le_of_ble_eq_true rfl) ?_
  intro p e s m args below meth c H locs Q hx hb hml hown hts hK hR hS hret ls hl
  obtain ⟨ρ0, hρ0⟩ : ∃ z, z = ρ := ⟨_, rfl⟩
  rw [← hρ0] at hret
  replace hS : WS ρ0 s.heap ρ H locs := hρ0 ▸ hS
  replace hl : lv_has ls 2 [(0, .ref v0), (1, .int v1)] := hl
  unfold fX0_turnStopped at hf
  refine lv_aload_n hx hb dX0_turnStopped_0 rfl (lv_at hl 0 rfl) ?_
  refine lv_iload_n hx hb dX0_turnStopped_1 rfl (lv_at hl 1 rfl) ?_
  obtain ⟨x1, h1, hf⟩ := Option.bind_eq_some_iff.mp hf
  obtain ⟨x2, h2, hf⟩ := Option.bind_eq_some_iff.mp hf
  refine r_callV (As := [.int v1]) (rest := []) (st1 := [.int x2]) ⟨hx, hb, hml, hown, hts⟩ (kX0_isWindow l G ρ v0 v1 _ h2) (cu_V hts tw_1_221 tw_1_218 tw_1_219 tw_1_220 tw_1_2 hdX0_isWindow rfl rfl ⟨Nat.le_of_ble_eq_true rfl, Nat.le_of_ble_eq_true rfl⟩) hK hR rfl h1 rfl hl.1 rfl (Nat.le_of_ble_eq_true rfl) dX0_turnStopped_2 ⟨Nat.zero_le _, Nat.zero_le _⟩ rfl ?_
  refine lv_if_ne (tgt := 10) hx hb dX0_turnStopped_5 (by decide) (fun c3 => ?_) (fun c3 => ?_)
  · replace hf := (if_neg c3).symm.trans hf
    refine lv_aload_n hx hb dX0_turnStopped_10 rfl (lv_at hl 0 rfl) ?_
    refine lv_dup hx hb dX0_turnStopped_11 rfl ?_
    obtain ⟨x4, h4, hf⟩ := Option.bind_eq_some_iff.mp hf
    refine r_gI hx hb hts inX0 hown hK hR rfl 6 (by decide) (hts _ tw_1_54) h4 dX0_turnStopped_12 ?_
    refine lv_iconst (v := 1) hx hb dX0_turnStopped_15 (by decide) ?_
    refine lv_iload_n hx hb dX0_turnStopped_16 rfl (lv_at hl 1 rfl) ?_
    refine lv_ishl hx hb dX0_turnStopped_17 ?_
    refine lv_ixor hx hb dX0_turnStopped_18 ?_
    obtain ⟨x5, h5, hf⟩ := Option.bind_eq_some_iff.mp hf
    refine w_ptV hx hb hts inX0 tyX0 tyX0_ok nmX0 hown hK hR hS rfl 6 (by decide) (hts _ tw_1_54) rfl (ty := .int) rfl rfl rfl h5 dX0_turnStopped_19 (fun H locs hR hS => ?_)
    refine lv_aload_n hx hb dX0_turnStopped_22 rfl (lv_at hl 0 rfl) ?_
    refine lv_iload_n hx hb dX0_turnStopped_23 rfl (lv_at hl 1 rfl) ?_
    obtain ⟨x6, h6, hf⟩ := Option.bind_eq_some_iff.mp hf
    obtain ⟨x7, h7, hf⟩ := Option.bind_eq_some_iff.mp hf
    refine r_callV (As := [.int v1]) (rest := []) (st1 := [.int x7]) ⟨hx, hb, hml, hown, hts⟩ (kX0_isStopped l G x5 v0 v1 _ h7) (cu_V hts tw_1_225 tw_1_222 tw_1_223 tw_1_224 tw_1_2 hdX0_isStopped rfl rfl ⟨Nat.le_of_ble_eq_true rfl, Nat.le_of_ble_eq_true rfl⟩) hK hR rfl h6 rfl hl.1 rfl (Nat.le_of_ble_eq_true rfl) dX0_turnStopped_24 ⟨Nat.zero_le _, Nat.zero_le _⟩ rfl ?_
    refine lv_if_eq (tgt := 34) hx hb dX0_turnStopped_27 (by decide) (fun c8 => ?_) (fun c8 => ?_)
    · replace hf := (if_pos c8).symm.trans hf
      refine lv_iconst (v := 0) hx hb dX0_turnStopped_34 (by decide) ?_
      exact hret _ _ _ _ _ _ dX0_turnStopped_35 hR hS hf
    · replace hf := (if_neg c8).symm.trans hf
      refine lv_iconst (v := 1) hx hb dX0_turnStopped_30 (by decide) ?_
      refine lv_goto (tgt := 35) hx hb dX0_turnStopped_31 (by decide) ?_
      exact hret _ _ _ _ _ _ dX0_turnStopped_35 hR hS hf
  · replace hf := (if_pos c3).symm.trans hf
    refine lv_iconst (v := (-1)) hx hb dX0_turnStopped_8 (by decide) ?_
    exact hret _ _ _ _ _ _ dX0_turnStopped_9 hR hS hf
/-! BrickedUpAsBlind.House.changeHour(I)I -/
def fX0_changeHour (ρ : Rho) (v0 : Nat) (v1 : Int32) : Option (Int32 × Rho) :=
    (fX0_isHour ρ v1).bind fun x1 =>
    if x1 = 0 then (some ((-1), ρ))
    else ((gI ρ 0 v0 7).bind fun x3 =>
    (ptV ρ 0 v0 7 (.int v1)).bind fun x4 =>
    some (x3, x4))
abbrev rX0_changeHour : Room := { frames := 2, cells := 0, slots := 0, locals := 42 }
theorem hdX0_changeHour : hdP yX0_changeHour 1 := by unfold hdP; decide +kernel
set_option maxHeartbeats 4000000 in
set_option maxRecDepth 100000 in
theorem kX0_changeHour (l : Launch) (G : GD) (ρ : Rho) (v0 : Nat) (v1 : Int32) (r0 : Int32) (ρ1 : Rho) (hf : fX0_changeHour ρ v0 v1 = some (r0, ρ1)) : WM l G yX0_changeHour (Cond.code yX0_changeHour cX0_changeHour 3 (some .int) :: LW) rX0_changeHour ρ [.ref v0, .int v1] (some (.int r0)) ρ1 := by
  obtain ⟨r, hr⟩ : ∃ r, r = (r0, ρ1) := ⟨_, rfl⟩
  rw [← hr] at hf
  refine WM.ofI (own := RX0) (r := r) hr (by decide) rfl (Nat.le_of_ble_eq_true rfl) ?_
  intro p e s m args below meth c H locs Q hx hb hml hown hts hK hR hS hret ls hl
  obtain ⟨ρ0, hρ0⟩ : ∃ z, z = ρ := ⟨_, rfl⟩
  rw [← hρ0] at hret
  replace hS : WS ρ0 s.heap ρ H locs := hρ0 ▸ hS
  replace hl : lv_has ls 3 [(0, .ref v0), (1, .int v1)] := hl
  unfold fX0_changeHour at hf
  refine lv_iload_n hx hb dX0_changeHour_0 rfl (lv_at hl 1 rfl) ?_
  obtain ⟨x1, h1, hf⟩ := Option.bind_eq_some_iff.mp hf
  refine r_callS (As := [.int v1]) (rest := []) (st1 := [.int x1]) ⟨hx, hb, hml, hown, hts⟩ (kX0_isHour l G ρ v1 _ h1) (cu_S hts tw_1_209 tw_1_207 tw_1_208 tw_1_2 hdX0_isHour rfl rfl ⟨Nat.le_of_ble_eq_true rfl, Nat.le_of_ble_eq_true rfl⟩) hK hR rfl hl.1 rfl (Nat.le_of_ble_eq_true rfl) dX0_changeHour_1 ⟨Nat.zero_le _, Nat.zero_le _⟩ rfl ?_
  refine lv_if_ne (tgt := 9) hx hb dX0_changeHour_4 (by decide) (fun c2 => ?_) (fun c2 => ?_)
  · replace hf := (if_neg c2).symm.trans hf
    refine lv_aload_n hx hb dX0_changeHour_9 rfl (lv_at hl 0 rfl) ?_
    obtain ⟨x3, h3, hf⟩ := Option.bind_eq_some_iff.mp hf
    refine r_gI hx hb hts inX0 hown hK hR rfl 7 (by decide) (hts _ tw_1_58) h3 dX0_changeHour_10 ?_
    refine lv_istore_n (lv' := [(2, .int x3), (0, .ref v0), (1, .int v1)]) hx hb dX0_changeHour_13 rfl hl (by decide) rfl (fun ls hl => ?_)
    refine lv_aload_n hx hb dX0_changeHour_14 rfl (lv_at hl 1 rfl) ?_
    refine lv_iload_n hx hb dX0_changeHour_15 rfl (lv_at hl 2 rfl) ?_
    obtain ⟨x4, h4, hf⟩ := Option.bind_eq_some_iff.mp hf
    refine w_ptV hx hb hts inX0 tyX0 tyX0_ok nmX0 hown hK hR hS rfl 7 (by decide) (hts _ tw_1_58) rfl (ty := .int) rfl rfl rfl h4 dX0_changeHour_16 (fun H locs hR hS => ?_)
    refine lv_iload_n hx hb dX0_changeHour_19 rfl (lv_at hl 0 rfl) ?_
    exact hret _ _ _ _ _ _ dX0_changeHour_20 hR hS hf
  · replace hf := (if_pos c2).symm.trans hf
    refine lv_iconst (v := (-1)) hx hb dX0_changeHour_7 (by decide) ?_
    exact hret _ _ _ _ _ _ dX0_changeHour_8 hR hS hf
/-! BrickedUpAsBlind.House.changeRate(I)I -/
def fX0_changeRate (ρ : Rho) (v0 : Nat) (v1 : Int32) : Option (Int32 × Rho) :=
    (fX0_isWithin ρ v1 1 9).bind fun x1 =>
    if x1 = 0 then (some ((-1), ρ))
    else ((gI ρ 0 v0 10).bind fun x3 =>
    (ptV ρ 0 v0 10 (.int v1)).bind fun x4 =>
    some (x3, x4))
abbrev rX0_changeRate : Room := { frames := 1, cells := 0, slots := 0, locals := 22 }
theorem hdX0_changeRate : hdP yX0_changeRate 1 := by unfold hdP; decide +kernel
set_option maxHeartbeats 4000000 in
set_option maxRecDepth 100000 in
theorem kX0_changeRate (l : Launch) (G : GD) (ρ : Rho) (v0 : Nat) (v1 : Int32) (r0 : Int32) (ρ1 : Rho) (hf : fX0_changeRate ρ v0 v1 = some (r0, ρ1)) : WM l G yX0_changeRate (Cond.code yX0_changeRate cX0_changeRate 3 (some .int) :: LW) rX0_changeRate ρ [.ref v0, .int v1] (some (.int r0)) ρ1 := by
  obtain ⟨r, hr⟩ : ∃ r, r = (r0, ρ1) := ⟨_, rfl⟩
  rw [← hr] at hf
  refine WM.ofI (own := RX0) (r := r) hr (by decide) rfl (Nat.le_of_ble_eq_true rfl) ?_
  intro p e s m args below meth c H locs Q hx hb hml hown hts hK hR hS hret ls hl
  obtain ⟨ρ0, hρ0⟩ : ∃ z, z = ρ := ⟨_, rfl⟩
  rw [← hρ0] at hret
  replace hS : WS ρ0 s.heap ρ H locs := hρ0 ▸ hS
  replace hl : lv_has ls 3 [(0, .ref v0), (1, .int v1)] := hl
  unfold fX0_changeRate at hf
  refine lv_iload_n hx hb dX0_changeRate_0 rfl (lv_at hl 1 rfl) ?_
  refine lv_iconst (v := 1) hx hb dX0_changeRate_1 (by decide) ?_
  refine lv_bipush (v := 9) hx hb dX0_changeRate_2 (by decide) ?_
  obtain ⟨x1, h1, hf⟩ := Option.bind_eq_some_iff.mp hf
  refine r_callS (As := [.int v1, .int 1, .int 9]) (rest := []) (st1 := [.int x1]) ⟨hx, hb, hml, hown, hts⟩ (kX0_isWithin l G ρ v1 1 9 _ h1) (cu_S hts tw_1_206 tw_1_204 tw_1_205 tw_1_2 hdX0_isWithin rfl rfl ⟨Nat.le_of_ble_eq_true rfl, Nat.le_of_ble_eq_true rfl⟩) hK hR rfl hl.1 rfl (Nat.le_of_ble_eq_true rfl) dX0_changeRate_4 ⟨Nat.zero_le _, Nat.zero_le _⟩ rfl ?_
  refine lv_if_ne (tgt := 12) hx hb dX0_changeRate_7 (by decide) (fun c2 => ?_) (fun c2 => ?_)
  · replace hf := (if_neg c2).symm.trans hf
    refine lv_aload_n hx hb dX0_changeRate_12 rfl (lv_at hl 0 rfl) ?_
    obtain ⟨x3, h3, hf⟩ := Option.bind_eq_some_iff.mp hf
    refine r_gI hx hb hts inX0 hown hK hR rfl 10 (by decide) (hts _ tw_1_68) h3 dX0_changeRate_13 ?_
    refine lv_istore_n (lv' := [(2, .int x3), (0, .ref v0), (1, .int v1)]) hx hb dX0_changeRate_16 rfl hl (by decide) rfl (fun ls hl => ?_)
    refine lv_aload_n hx hb dX0_changeRate_17 rfl (lv_at hl 1 rfl) ?_
    refine lv_iload_n hx hb dX0_changeRate_18 rfl (lv_at hl 2 rfl) ?_
    obtain ⟨x4, h4, hf⟩ := Option.bind_eq_some_iff.mp hf
    refine w_ptV hx hb hts inX0 tyX0 tyX0_ok nmX0 hown hK hR hS rfl 10 (by decide) (hts _ tw_1_68) rfl (ty := .int) rfl rfl rfl h4 dX0_changeRate_19 (fun H locs hR hS => ?_)
    refine lv_iload_n hx hb dX0_changeRate_22 rfl (lv_at hl 0 rfl) ?_
    exact hret _ _ _ _ _ _ dX0_changeRate_23 hR hS hf
  · replace hf := (if_pos c2).symm.trans hf
    refine lv_iconst (v := (-1)) hx hb dX0_changeRate_10 (by decide) ?_
    exact hret _ _ _ _ _ _ dX0_changeRate_11 hR hS hf
/-! BrickedUpAsBlind.House.openDues()I -/
def fX0_openDues_38 (ρ : Rho) (k4 : Nat → Int32 → Int32 → Option Int32) (v0 : Nat) (v1 : Int32) (v2 : Int32) : Option Int32 :=
    k4 v0 v1 (v2 + 1)
def fX0_openDues_4 (ρ : Rho) : Nat → Nat → Int32 → Int32 → Option Int32
  | 0, _, _, _ => none
  | n + 1, v0, v1, v2 =>
    (gI ρ 0 v0 5).bind fun x1 =>
    if x1 ≤ v2 then ((gI ρ 0 v0 10).bind fun x3 =>
    some (v1 * x3))
    else ((ckO ρ 0 v0).bind fun x4 =>
    (fX0_isStopped ρ v0 v2).bind fun x5 =>
    if x5 = 0 then ((gR ρ 0 v0 0).bind fun x7 =>
    (ldI ρ x7 v2).bind fun x8 =>
    (gR ρ 0 v0 1).bind fun x9 =>
    (ldI ρ x9 v2).bind fun x10 =>
    (fX1_due ρ x8 x10).bind fun x11 =>
    fX0_openDues_38 ρ (fX0_openDues_4 ρ n) v0 (v1 + x11) v2)
    else (fX0_openDues_38 ρ (fX0_openDues_4 ρ n) v0 v1 v2))
def fX0_openDues (ρ : Rho) (v0 : Nat) : Option Int32 :=
    fX0_openDues_4 ρ FU v0 0 0
abbrev rX0_openDues : Room := { frames := 1, cells := 0, slots := 0, locals := 23 }
theorem hdX0_openDues : hdP yX0_openDues 0 := by unfold hdP; decide +kernel
set_option maxHeartbeats 4000000 in
set_option maxRecDepth 100000 in
theorem kX0_openDues (l : Launch) (G : GD) (ρ : Rho) (v0 : Nat) (r : Int32) (hf : fX0_openDues ρ v0 = some r) : RM l G yX0_openDues (Cond.code yX0_openDues cX0_openDues 3 (some .int) :: LW) rX0_openDues ρ [.ref v0] (some (.int r)) := by
  refine RM.ofI (own := RX0) (by decide) rfl (Nat.le_of_ble_eq_true rfl) ?_
  intro p e s m args below meth c H locs Q hx hb hml hown hts hK hR hret ls hl
  replace hl : lv_has ls 3 [(0, .ref v0)] := hl
  have J38 : ∀ (k4 : Nat → Int32 → Int32 → Option Int32) (_ : ∀ (v0 : Nat) (v1 : Int32) (v2 : Int32) (ls : Array Slot), k4 v0 v1 v2 = some r → lv_has ls 3 [(0, .ref v0), (1, .int v1), (2, .int v2)] → W p l e rX0_openDues s m args below meth c H locs 0 0 Q (F0 m 4 ls [])), ∀ (v0 : Nat) (v1 : Int32) (v2 : Int32) (ls : Array Slot), fX0_openDues_38 ρ k4 v0 v1 v2 = some r → lv_has ls 3 [(0, .ref v0), (1, .int v1), (2, .int v2)] → W p l e rX0_openDues s m args below meth c H locs 0 0 Q (F0 m 38 ls []) := by
    intro k4 hk4 v0 v1 v2 ls hf hl
    rw [fX0_openDues_38] at hf
    refine lv_iinc (v := (v2 + 1)) (lv' := [(2, .int (v2 + 1)), (0, .ref v0), (1, .int v1)]) hx hb dX0_openDues_38 hl (k := 2) rfl rfl (by decide) rfl (fun ls hl => ?_)
    refine lv_goto (tgt := 4) hx hb dX0_openDues_41 (by decide) ?_
    exact hk4 v0 v1 (v2 + 1) ls hf (lv_sub hl [1, 2, 0] rfl)
  have L4 : ∀ (n : Nat) (v0 : Nat) (v1 : Int32) (v2 : Int32) (ls : Array Slot), fX0_openDues_4 ρ n v0 v1 v2 = some r → lv_has ls 3 [(0, .ref v0), (1, .int v1), (2, .int v2)] → W p l e rX0_openDues s m args below meth c H locs 0 0 Q (F0 m 4 ls []) := by
    intro n
    induction n with
    | zero =>
      intro v0 v1 v2 ls hf
      rw [fX0_openDues_4] at hf
      cases hf
    | succ n ih =>
      intro v0 v1 v2 ls hf hl
      rw [fX0_openDues_4] at hf
      refine lv_iload_n hx hb dX0_openDues_4 rfl (lv_at hl 2 rfl) ?_
      refine lv_aload_n hx hb dX0_openDues_5 rfl (lv_at hl 0 rfl) ?_
      obtain ⟨x1, h1, hf⟩ := Option.bind_eq_some_iff.mp hf
      refine r_gI hx hb hts inX0 hown hK hR rfl 5 (by decide) (hts _ tw_1_48) h1 dX0_openDues_6 ?_
      refine lv_icmp_ge (tgt := 44) hx hb dX0_openDues_9 (by decide) (fun c2 => ?_) (fun c2 => ?_)
      · replace hf := (if_pos c2).symm.trans hf
        refine lv_iload_n hx hb dX0_openDues_44 rfl (lv_at hl 1 rfl) ?_
        refine lv_aload_n hx hb dX0_openDues_45 rfl (lv_at hl 0 rfl) ?_
        obtain ⟨x3, h3, hf⟩ := Option.bind_eq_some_iff.mp hf
        refine r_gI hx hb hts inX0 hown hK hR rfl 10 (by decide) (hts _ tw_1_68) h3 dX0_openDues_46 ?_
        refine lv_imul hx hb dX0_openDues_49 ?_
        exact hret _ _ _ dX0_openDues_50 hf
      · replace hf := (if_neg c2).symm.trans hf
        refine lv_aload_n hx hb dX0_openDues_12 rfl (lv_at hl 0 rfl) ?_
        refine lv_iload_n hx hb dX0_openDues_13 rfl (lv_at hl 2 rfl) ?_
        obtain ⟨x4, h4, hf⟩ := Option.bind_eq_some_iff.mp hf
        obtain ⟨x5, h5, hf⟩ := Option.bind_eq_some_iff.mp hf
        refine r_callV (As := [.int v2]) (rest := []) (st1 := [.int x5]) ⟨hx, hb, hml, hown, hts⟩ (kX0_isStopped l G ρ v0 v2 _ h5) (cu_V hts tw_1_225 tw_1_222 tw_1_223 tw_1_224 tw_1_2 hdX0_isStopped rfl rfl ⟨Nat.le_of_ble_eq_true rfl, Nat.le_of_ble_eq_true rfl⟩) hK hR rfl h4 rfl hl.1 rfl (Nat.le_of_ble_eq_true rfl) dX0_openDues_14 ⟨Nat.zero_le _, Nat.zero_le _⟩ rfl ?_
        refine lv_if_ne (tgt := 38) hx hb dX0_openDues_17 (by decide) (fun c6 => ?_) (fun c6 => ?_)
        · replace hf := (if_neg c6).symm.trans hf
          exact J38 _ ih v0 v1 v2 ls hf (lv_sub hl [0, 1, 2] rfl)
        · replace hf := (if_pos c6).symm.trans hf
          refine lv_iload_n hx hb dX0_openDues_20 rfl (lv_at hl 1 rfl) ?_
          refine lv_aload_n hx hb dX0_openDues_21 rfl (lv_at hl 0 rfl) ?_
          obtain ⟨x7, h7, hf⟩ := Option.bind_eq_some_iff.mp hf
          refine r_gR hx hb hts inX0 hown hK hR rfl 0 (by decide) (hts _ tw_1_35) h7 dX0_openDues_22 ?_
          refine lv_iload_n hx hb dX0_openDues_25 rfl (lv_at hl 2 rfl) ?_
          obtain ⟨x8, h8, hf⟩ := Option.bind_eq_some_iff.mp hf
          refine r_ldI hx hb hK hR h8 dX0_openDues_26 ?_
          refine lv_aload_n hx hb dX0_openDues_27 rfl (lv_at hl 0 rfl) ?_
          obtain ⟨x9, h9, hf⟩ := Option.bind_eq_some_iff.mp hf
          refine r_gR hx hb hts inX0 hown hK hR rfl 1 (by decide) (hts _ tw_1_39) h9 dX0_openDues_28 ?_
          refine lv_iload_n hx hb dX0_openDues_31 rfl (lv_at hl 2 rfl) ?_
          obtain ⟨x10, h10, hf⟩ := Option.bind_eq_some_iff.mp hf
          refine r_ldI hx hb hK hR h10 dX0_openDues_32 ?_
          obtain ⟨x11, h11, hf⟩ := Option.bind_eq_some_iff.mp hf
          refine r_callS (As := [.int x8, .int x10]) (rest := [.int v1]) (st1 := [.int x11, .int v1]) ⟨hx, hb, hml, hown, hts⟩ (kX1_due l G ρ x8 x10 _ h11) (cu_S hts tw_2_8 tw_2_6 tw_2_7 tw_1_7 hdX1_due rfl rfl ⟨Nat.le_of_ble_eq_true rfl, Nat.le_of_ble_eq_true rfl⟩) hK hR rfl hl.1 rfl (Nat.le_of_ble_eq_true rfl) dX0_openDues_33 ⟨Nat.zero_le _, Nat.zero_le _⟩ rfl ?_
          refine lv_iadd hx hb dX0_openDues_36 ?_
          refine lv_istore_n (lv' := [(1, .int (v1 + x11)), (0, .ref v0), (2, .int v2)]) hx hb dX0_openDues_37 rfl hl (by decide) rfl (fun ls hl => ?_)
          exact J38 _ ih v0 (v1 + x11) v2 ls hf (lv_sub hl [1, 0, 2] rfl)
  unfold fX0_openDues at hf
  refine lv_iconst (v := 0) hx hb dX0_openDues_0 (by decide) ?_
  refine lv_istore_n (lv' := [(1, .int 0), (0, .ref v0)]) hx hb dX0_openDues_1 rfl hl (by decide) rfl (fun ls hl => ?_)
  refine lv_iconst (v := 0) hx hb dX0_openDues_2 (by decide) ?_
  refine lv_istore_n (lv' := [(2, .int 0), (1, .int 0), (0, .ref v0)]) hx hb dX0_openDues_3 rfl hl (by decide) rfl (fun ls hl => ?_)
  exact L4 FU v0 0 0 ls hf (lv_sub hl [2, 1, 0] rfl)
/-! BrickedUpAsBlind.House.isMoving(II)Z -/
def fX0_isMoving (ρ : Rho) (v0 : Nat) (v1 : Int32) (v2 : Int32) : Option Int32 :=
    (ckO ρ 0 v0).bind fun x1 =>
    (fX0_isStopped ρ v0 v1).bind fun x2 =>
    if x2 = 0 then ((gR ρ 0 v0 0).bind fun x4 =>
    (ldI ρ x4 v1).bind fun x5 =>
    (gR ρ 0 v0 1).bind fun x6 =>
    (ldI ρ x6 v1).bind fun x7 =>
    (gR ρ 0 v0 3).bind fun x8 =>
    (ldI ρ x8 v1).bind fun x9 =>
    (fX1_apart ρ x9 v2).bind fun x10 =>
    (fX1_moves ρ x5 x7 x10 v2).bind fun x11 =>
    if x11 = 0 then (nb 0)
    else (nb 1))
    else (nb 0)
abbrev rX0_isMoving : Room := { frames := 1, cells := 0, slots := 0, locals := 23 }
theorem hdX0_isMoving : hdP yX0_isMoving 2 := by unfold hdP; decide +kernel
set_option maxHeartbeats 4000000 in
set_option maxRecDepth 100000 in
theorem kX0_isMoving (l : Launch) (G : GD) (ρ : Rho) (v0 : Nat) (v1 : Int32) (v2 : Int32) (r : Int32) (hf : fX0_isMoving ρ v0 v1 v2 = some r) : RM l G yX0_isMoving (Cond.code yX0_isMoving cX0_isMoving 3 (some .boolean) :: LW) rX0_isMoving ρ [.ref v0, .int v1, .int v2] (some (.int r)) := by
  refine RM.ofZ (own := RX0) (by decide) rfl (Nat.le_of_ble_eq_true rfl) ?_
  intro p e s m args below meth c H locs Q hx hb hml hown hts hK hR hret ls hl
  replace hl : lv_has ls 3 [(0, .ref v0), (1, .int v1), (2, .int v2)] := hl
  unfold fX0_isMoving at hf
  refine lv_aload_n hx hb dX0_isMoving_0 rfl (lv_at hl 0 rfl) ?_
  refine lv_iload_n hx hb dX0_isMoving_1 rfl (lv_at hl 1 rfl) ?_
  obtain ⟨x1, h1, hf⟩ := Option.bind_eq_some_iff.mp hf
  obtain ⟨x2, h2, hf⟩ := Option.bind_eq_some_iff.mp hf
  refine r_callV (As := [.int v1]) (rest := []) (st1 := [.int x2]) ⟨hx, hb, hml, hown, hts⟩ (kX0_isStopped l G ρ v0 v1 _ h2) (cu_V hts tw_1_225 tw_1_222 tw_1_223 tw_1_224 tw_1_2 hdX0_isStopped rfl rfl ⟨Nat.le_of_ble_eq_true rfl, Nat.le_of_ble_eq_true rfl⟩) hK hR rfl h1 rfl hl.1 rfl (Nat.le_of_ble_eq_true rfl) dX0_isMoving_2 ⟨Nat.zero_le _, Nat.zero_le _⟩ rfl ?_
  refine lv_if_ne (tgt := 41) hx hb dX0_isMoving_5 (by decide) (fun c3 => ?_) (fun c3 => ?_)
  · replace hf := (if_neg c3).symm.trans hf
    refine lv_iconst (v := 0) hx hb dX0_isMoving_41 (by decide) ?_
    exact hret _ _ _ dX0_isMoving_42 hf
  · replace hf := (if_pos c3).symm.trans hf
    refine lv_aload_n hx hb dX0_isMoving_8 rfl (lv_at hl 0 rfl) ?_
    obtain ⟨x4, h4, hf⟩ := Option.bind_eq_some_iff.mp hf
    refine r_gR hx hb hts inX0 hown hK hR rfl 0 (by decide) (hts _ tw_1_35) h4 dX0_isMoving_9 ?_
    refine lv_iload_n hx hb dX0_isMoving_12 rfl (lv_at hl 1 rfl) ?_
    obtain ⟨x5, h5, hf⟩ := Option.bind_eq_some_iff.mp hf
    refine r_ldI hx hb hK hR h5 dX0_isMoving_13 ?_
    refine lv_aload_n hx hb dX0_isMoving_14 rfl (lv_at hl 0 rfl) ?_
    obtain ⟨x6, h6, hf⟩ := Option.bind_eq_some_iff.mp hf
    refine r_gR hx hb hts inX0 hown hK hR rfl 1 (by decide) (hts _ tw_1_39) h6 dX0_isMoving_15 ?_
    refine lv_iload_n hx hb dX0_isMoving_18 rfl (lv_at hl 1 rfl) ?_
    obtain ⟨x7, h7, hf⟩ := Option.bind_eq_some_iff.mp hf
    refine r_ldI hx hb hK hR h7 dX0_isMoving_19 ?_
    refine lv_aload_n hx hb dX0_isMoving_20 rfl (lv_at hl 0 rfl) ?_
    obtain ⟨x8, h8, hf⟩ := Option.bind_eq_some_iff.mp hf
    refine r_gR hx hb hts inX0 hown hK hR rfl 3 (by decide) (hts _ tw_1_45) h8 dX0_isMoving_21 ?_
    refine lv_iload_n hx hb dX0_isMoving_24 rfl (lv_at hl 1 rfl) ?_
    obtain ⟨x9, h9, hf⟩ := Option.bind_eq_some_iff.mp hf
    refine r_ldI hx hb hK hR h9 dX0_isMoving_25 ?_
    refine lv_iload_n hx hb dX0_isMoving_26 rfl (lv_at hl 2 rfl) ?_
    obtain ⟨x10, h10, hf⟩ := Option.bind_eq_some_iff.mp hf
    refine r_callS (As := [.int x9, .int v2]) (rest := [.int x7, .int x5]) (st1 := [.int x10, .int x7, .int x5]) ⟨hx, hb, hml, hown, hts⟩ (kX1_apart l G ρ x9 v2 _ h10) (cu_S hts tw_2_15 tw_2_13 tw_2_14 tw_1_7 hdX1_apart rfl rfl ⟨Nat.le_of_ble_eq_true rfl, Nat.le_of_ble_eq_true rfl⟩) hK hR rfl hl.1 rfl (Nat.le_of_ble_eq_true rfl) dX0_isMoving_27 ⟨Nat.zero_le _, Nat.zero_le _⟩ rfl ?_
    refine lv_iload_n hx hb dX0_isMoving_30 rfl (lv_at hl 2 rfl) ?_
    obtain ⟨x11, h11, hf⟩ := Option.bind_eq_some_iff.mp hf
    refine r_callS (As := [.int x5, .int x7, .int x10, .int v2]) (rest := []) (st1 := [.int x11]) ⟨hx, hb, hml, hown, hts⟩ (kX1_moves l G ρ x5 x7 x10 v2 _ h11) (cu_S hts tw_2_18 tw_2_16 tw_2_17 tw_1_7 hdX1_moves rfl rfl ⟨Nat.le_of_ble_eq_true rfl, Nat.le_of_ble_eq_true rfl⟩) hK hR rfl hl.1 rfl (Nat.le_of_ble_eq_true rfl) dX0_isMoving_31 ⟨Nat.zero_le _, Nat.zero_le _⟩ rfl ?_
    refine lv_if_eq (tgt := 41) hx hb dX0_isMoving_34 (by decide) (fun c12 => ?_) (fun c12 => ?_)
    · replace hf := (if_pos c12).symm.trans hf
      refine lv_iconst (v := 0) hx hb dX0_isMoving_41 (by decide) ?_
      exact hret _ _ _ dX0_isMoving_42 hf
    · replace hf := (if_neg c12).symm.trans hf
      refine lv_iconst (v := 1) hx hb dX0_isMoving_37 (by decide) ?_
      refine lv_goto (tgt := 42) hx hb dX0_isMoving_38 (by decide) ?_
      exact hret _ _ _ dX0_isMoving_42 hf
/-! BrickedUpAsBlind.House.owedBehindYear(II)I -/
def fX0_owedBehindYear_44 (ρ : Rho) (k8 : Nat → Int32 → Int32 → Int32 → Int32 → Option Int32) (v0 : Nat) (v1 : Int32) (v2 : Int32) (v3 : Int32) (v4 : Int32) : Option Int32 :=
    k8 v0 v1 v2 v3 (v4 + 1)
def fX0_owedBehindYear_8 (ρ : Rho) : Nat → Nat → Int32 → Int32 → Int32 → Int32 → Option Int32
  | 0, _, _, _, _, _ => none
  | n + 1, v0, v1, v2, v3, v4 =>
    (gI ρ 0 v0 5).bind fun x1 =>
    if x1 ≤ v4 then (some (if (v1 + v3) < 99999 then (v1 + v3) else 99999))
    else ((ckO ρ 0 v0).bind fun x3 =>
    (fX0_isMoving ρ v0 v4 v2).bind fun x4 =>
    if x4 = 0 then (fX0_owedBehindYear_44 ρ (fX0_owedBehindYear_8 ρ n) v0 v1 v2 v3 v4)
    else ((gR ρ 0 v0 1).bind fun x6 =>
    (ldI ρ x6 v4).bind fun x7 =>
    (gI ρ 0 v0 10).bind fun x8 =>
    fX0_owedBehindYear_44 ρ (fX0_owedBehindYear_8 ρ n) v0 v1 v2 (v3 + ((x7 + 1) * x8)) v4))
def fX0_owedBehindYear (ρ : Rho) (v0 : Nat) (v1 : Int32) (v2 : Int32) : Option Int32 :=
    (ckO ρ 0 v0).bind fun x9 =>
    (fX0_openDues ρ v0).bind fun x10 =>
    fX0_owedBehindYear_8 ρ FU v0 v1 v2 x10 0
abbrev rX0_owedBehindYear : Room := { frames := 2, cells := 0, slots := 0, locals := 64 }
theorem hdX0_owedBehindYear : hdP yX0_owedBehindYear 2 := by unfold hdP; decide +kernel
set_option maxHeartbeats 4000000 in
set_option maxRecDepth 100000 in
theorem kX0_owedBehindYear (l : Launch) (G : GD) (ρ : Rho) (v0 : Nat) (v1 : Int32) (v2 : Int32) (r : Int32) (hf : fX0_owedBehindYear ρ v0 v1 v2 = some r) : RM l G yX0_owedBehindYear (Cond.code yX0_owedBehindYear cX0_owedBehindYear 5 (some .int) :: LW) rX0_owedBehindYear ρ [.ref v0, .int v1, .int v2] (some (.int r)) := by
  refine RM.ofI (own := RX0) (by decide) rfl (Nat.le_of_ble_eq_true rfl) ?_
  intro p e s m args below meth c H locs Q hx hb hml hown hts hK hR hret ls hl
  replace hl : lv_has ls 5 [(0, .ref v0), (1, .int v1), (2, .int v2)] := hl
  have J44 : ∀ (k8 : Nat → Int32 → Int32 → Int32 → Int32 → Option Int32) (_ : ∀ (v0 : Nat) (v1 : Int32) (v2 : Int32) (v3 : Int32) (v4 : Int32) (ls : Array Slot), k8 v0 v1 v2 v3 v4 = some r → lv_has ls 5 [(0, .ref v0), (1, .int v1), (2, .int v2), (3, .int v3), (4, .int v4)] → W p l e rX0_owedBehindYear s m args below meth c H locs 0 0 Q (F0 m 8 ls [])), ∀ (v0 : Nat) (v1 : Int32) (v2 : Int32) (v3 : Int32) (v4 : Int32) (ls : Array Slot), fX0_owedBehindYear_44 ρ k8 v0 v1 v2 v3 v4 = some r → lv_has ls 5 [(0, .ref v0), (1, .int v1), (2, .int v2), (3, .int v3), (4, .int v4)] → W p l e rX0_owedBehindYear s m args below meth c H locs 0 0 Q (F0 m 44 ls []) := by
    intro k8 hk8 v0 v1 v2 v3 v4 ls hf hl
    rw [fX0_owedBehindYear_44] at hf
    refine lv_iinc (v := (v4 + 1)) (lv' := [(4, .int (v4 + 1)), (0, .ref v0), (1, .int v1), (2, .int v2), (3, .int v3)]) hx hb dX0_owedBehindYear_44 hl (k := 4) rfl rfl (by decide) rfl (fun ls hl => ?_)
    refine lv_goto (tgt := 8) hx hb dX0_owedBehindYear_47 (by decide) ?_
    exact hk8 v0 v1 v2 v3 (v4 + 1) ls hf (lv_sub hl [1, 2, 3, 4, 0] rfl)
  have L8 : ∀ (n : Nat) (v0 : Nat) (v1 : Int32) (v2 : Int32) (v3 : Int32) (v4 : Int32) (ls : Array Slot), fX0_owedBehindYear_8 ρ n v0 v1 v2 v3 v4 = some r → lv_has ls 5 [(0, .ref v0), (1, .int v1), (2, .int v2), (3, .int v3), (4, .int v4)] → W p l e rX0_owedBehindYear s m args below meth c H locs 0 0 Q (F0 m 8 ls []) := by
    intro n
    induction n with
    | zero =>
      intro v0 v1 v2 v3 v4 ls hf
      rw [fX0_owedBehindYear_8] at hf
      cases hf
    | succ n ih =>
      intro v0 v1 v2 v3 v4 ls hf hl
      rw [fX0_owedBehindYear_8] at hf
      refine lv_iload hx hb dX0_owedBehindYear_8 (lv_at hl 4 rfl) ?_
      refine lv_aload_n hx hb dX0_owedBehindYear_10 rfl (lv_at hl 0 rfl) ?_
      obtain ⟨x1, h1, hf⟩ := Option.bind_eq_some_iff.mp hf
      refine r_gI hx hb hts inX0 hown hK hR rfl 5 (by decide) (hts _ tw_1_48) h1 dX0_owedBehindYear_11 ?_
      refine lv_icmp_ge (tgt := 50) hx hb dX0_owedBehindYear_14 (by decide) (fun c2 => ?_) (fun c2 => ?_)
      · replace hf := (if_pos c2).symm.trans hf
        refine lv_ldc (v := 99999) hx hb hown (hts _ (lw_t2 (List.mem_of_getElem? (i := 19) rfl) rfl)) dX0_owedBehindYear_50 ?_
        refine lv_iload_n hx hb dX0_owedBehindYear_52 rfl (lv_at hl 1 rfl) ?_
        refine lv_iload_n hx hb dX0_owedBehindYear_53 rfl (lv_at hl 3 rfl) ?_
        refine lv_iadd hx hb dX0_owedBehindYear_54 ?_
        refine va_mmin hx hb (hml.trans hl.1.symm) hown (hts _ tw_2_20) (hts _ tw_2_21) (hts _ tw_1_8) (hts _ tw_2_22) (Nat.le_of_ble_eq_true rfl) (Nat.le_of_ble_eq_true rfl) (Nat.zero_le _) (Nat.zero_le _) dX0_owedBehindYear_55 ?_
        exact hret _ _ _ dX0_owedBehindYear_58 hf
      · replace hf := (if_neg c2).symm.trans hf
        refine lv_aload_n hx hb dX0_owedBehindYear_17 rfl (lv_at hl 0 rfl) ?_
        refine lv_iload hx hb dX0_owedBehindYear_18 (lv_at hl 4 rfl) ?_
        refine lv_iload_n hx hb dX0_owedBehindYear_20 rfl (lv_at hl 2 rfl) ?_
        obtain ⟨x3, h3, hf⟩ := Option.bind_eq_some_iff.mp hf
        obtain ⟨x4, h4, hf⟩ := Option.bind_eq_some_iff.mp hf
        refine r_callV (As := [.int v4, .int v2]) (rest := []) (st1 := [.int x4]) ⟨hx, hb, hml, hown, hts⟩ (kX0_isMoving l G ρ v0 v4 v2 _ h4) (cu_V hts tw_2_12 tw_2_9 tw_2_10 tw_2_11 tw_1_2 hdX0_isMoving rfl rfl ⟨Nat.le_of_ble_eq_true rfl, Nat.le_of_ble_eq_true rfl⟩) hK hR rfl h3 rfl hl.1 rfl (Nat.le_of_ble_eq_true rfl) dX0_owedBehindYear_21 ⟨Nat.zero_le _, Nat.zero_le _⟩ rfl ?_
        refine lv_if_eq (tgt := 44) hx hb dX0_owedBehindYear_24 (by decide) (fun c5 => ?_) (fun c5 => ?_)
        · replace hf := (if_pos c5).symm.trans hf
          exact J44 _ ih v0 v1 v2 v3 v4 ls hf (lv_sub hl [0, 1, 2, 3, 4] rfl)
        · replace hf := (if_neg c5).symm.trans hf
          refine lv_iload_n hx hb dX0_owedBehindYear_27 rfl (lv_at hl 3 rfl) ?_
          refine lv_aload_n hx hb dX0_owedBehindYear_28 rfl (lv_at hl 0 rfl) ?_
          obtain ⟨x6, h6, hf⟩ := Option.bind_eq_some_iff.mp hf
          refine r_gR hx hb hts inX0 hown hK hR rfl 1 (by decide) (hts _ tw_1_39) h6 dX0_owedBehindYear_29 ?_
          refine lv_iload hx hb dX0_owedBehindYear_32 (lv_at hl 4 rfl) ?_
          obtain ⟨x7, h7, hf⟩ := Option.bind_eq_some_iff.mp hf
          refine r_ldI hx hb hK hR h7 dX0_owedBehindYear_34 ?_
          refine lv_iconst (v := 1) hx hb dX0_owedBehindYear_35 (by decide) ?_
          refine lv_iadd hx hb dX0_owedBehindYear_36 ?_
          refine lv_aload_n hx hb dX0_owedBehindYear_37 rfl (lv_at hl 0 rfl) ?_
          obtain ⟨x8, h8, hf⟩ := Option.bind_eq_some_iff.mp hf
          refine r_gI hx hb hts inX0 hown hK hR rfl 10 (by decide) (hts _ tw_1_68) h8 dX0_owedBehindYear_38 ?_
          refine lv_imul hx hb dX0_owedBehindYear_41 ?_
          refine lv_iadd hx hb dX0_owedBehindYear_42 ?_
          refine lv_istore_n (lv' := [(3, .int (v3 + ((x7 + 1) * x8))), (0, .ref v0), (1, .int v1), (2, .int v2), (4, .int v4)]) hx hb dX0_owedBehindYear_43 rfl hl (by decide) rfl (fun ls hl => ?_)
          exact J44 _ ih v0 v1 v2 (v3 + ((x7 + 1) * x8)) v4 ls hf (lv_sub hl [1, 2, 3, 0, 4] rfl)
  unfold fX0_owedBehindYear at hf
  refine lv_aload_n hx hb dX0_owedBehindYear_0 rfl (lv_at hl 0 rfl) ?_
  obtain ⟨x9, h9, hf⟩ := Option.bind_eq_some_iff.mp hf
  obtain ⟨x10, h10, hf⟩ := Option.bind_eq_some_iff.mp hf
  refine r_callV (As := []) (rest := []) (st1 := [.int x10]) ⟨hx, hb, hml, hown, hts⟩ (kX0_openDues l G ρ v0 _ h10) (cu_V hts tw_2_5 tw_2_2 tw_2_3 tw_2_4 tw_1_2 hdX0_openDues rfl rfl ⟨Nat.le_of_ble_eq_true rfl, Nat.le_of_ble_eq_true rfl⟩) hK hR rfl h9 rfl hl.1 rfl (Nat.le_of_ble_eq_true rfl) dX0_owedBehindYear_1 ⟨Nat.zero_le _, Nat.zero_le _⟩ rfl ?_
  refine lv_istore_n (lv' := [(3, .int x10), (0, .ref v0), (1, .int v1), (2, .int v2)]) hx hb dX0_owedBehindYear_4 rfl hl (by decide) rfl (fun ls hl => ?_)
  refine lv_iconst (v := 0) hx hb dX0_owedBehindYear_5 (by decide) ?_
  refine lv_istore (lv' := [(4, .int 0), (3, .int x10), (0, .ref v0), (1, .int v1), (2, .int v2)]) hx hb dX0_owedBehindYear_6 hl (by decide) rfl (fun ls hl => ?_)
  exact L8 FU v0 v1 v2 x10 0 ls hf (lv_sub hl [2, 3, 4, 1, 0] rfl)
/-! BrickedUpAsBlind.House.passYears(I)I -/
def fX0_passYears_29 : Nat → Rho → Nat → Int32 → Int32 → Option (Int32 × Rho)
  | 0, _, _, _, _ => none
  | n + 1, ρ, v0, v1, v2 =>
    if v1 ≤ v2 then ((gI ρ 0 v0 8).bind fun x2 =>
    (ptV ρ 0 v0 8 (.int (x2 + v1))).bind fun x3 =>
    (gI x3 0 v0 9).bind fun x4 =>
    some (x4, x3))
    else ((gI ρ 0 v0 9).bind fun x5 =>
    (gI ρ 0 v0 7).bind fun x6 =>
    (ckO ρ 0 v0).bind fun x7 =>
    (fX0_owedBehindYear ρ v0 x5 x6).bind fun x8 =>
    (ptV ρ 0 v0 9 (.int x8)).bind fun x9 =>
    fX0_passYears_29 n x9 v0 v1 (v2 + 1))
def fX0_passYears (ρ : Rho) (v0 : Nat) (v1 : Int32) : Option (Int32 × Rho) :=
    (fX0_isWithin ρ v1 1 99).bind fun x10 =>
    if x10 = 0 then (some ((-1), ρ))
    else ((gI ρ 0 v0 8).bind fun x12 =>
    if (x12 + v1) ≤ 999 then (fX0_passYears_29 FU ρ v0 v1 0)
    else (some ((-3), ρ)))
abbrev rX0_passYears : Room := { frames := 3, cells := 0, slots := 0, locals := 88 }
theorem hdX0_passYears : hdP yX0_passYears 1 := by unfold hdP; decide +kernel
set_option maxHeartbeats 4000000 in
set_option maxRecDepth 100000 in
theorem kX0_passYears (l : Launch) (G : GD) (ρ : Rho) (v0 : Nat) (v1 : Int32) (r0 : Int32) (ρ1 : Rho) (hf : fX0_passYears ρ v0 v1 = some (r0, ρ1)) : WM l G yX0_passYears (Cond.code yX0_passYears cX0_passYears 3 (some .int) :: LW) rX0_passYears ρ [.ref v0, .int v1] (some (.int r0)) ρ1 := by
  obtain ⟨r, hr⟩ : ∃ r, r = (r0, ρ1) := ⟨_, rfl⟩
  rw [← hr] at hf
  refine WM.ofI (own := RX0) (r := r) hr (by decide) rfl (Nat.le_of_ble_eq_true rfl) ?_
  intro p e s m args below meth c H locs Q hx hb hml hown hts hK hR hS hret ls hl
  obtain ⟨ρ0, hρ0⟩ : ∃ z, z = ρ := ⟨_, rfl⟩
  rw [← hρ0] at hret
  replace hS : WS ρ0 s.heap ρ H locs := hρ0 ▸ hS
  replace hl : lv_has ls 3 [(0, .ref v0), (1, .int v1)] := hl
  have L29 : ∀ (n : Nat) (ρ : Rho) (v0 : Nat) (v1 : Int32) (v2 : Int32) (H : Heap) (locs : List Loc) (ls : Array Slot), fX0_passYears_29 n ρ v0 v1 v2 = some r → lv_has ls 3 [(0, .ref v0), (1, .int v1), (2, .int v2)] → RW G ρ H → WS ρ0 s.heap ρ H locs → W p l e rX0_passYears s m args below meth c H locs 0 0 Q (F0 m 29 ls []) := by
    intro n
    induction n with
    | zero =>
      intro ρ v0 v1 v2 H locs ls hf
      rw [fX0_passYears_29] at hf
      cases hf
    | succ n ih =>
      intro ρ v0 v1 v2 H locs ls hf hl hR hS
      rw [fX0_passYears_29] at hf
      refine lv_iload_n hx hb dX0_passYears_29 rfl (lv_at hl 2 rfl) ?_
      refine lv_iload_n hx hb dX0_passYears_30 rfl (lv_at hl 1 rfl) ?_
      refine lv_icmp_ge (tgt := 56) hx hb dX0_passYears_31 (by decide) (fun c1 => ?_) (fun c1 => ?_)
      · replace hf := (if_pos c1).symm.trans hf
        refine lv_aload_n hx hb dX0_passYears_56 rfl (lv_at hl 0 rfl) ?_
        refine lv_dup hx hb dX0_passYears_57 rfl ?_
        obtain ⟨x2, h2, hf⟩ := Option.bind_eq_some_iff.mp hf
        refine r_gI hx hb hts inX0 hown hK hR rfl 8 (by decide) (hts _ tw_1_63) h2 dX0_passYears_58 ?_
        refine lv_iload_n hx hb dX0_passYears_61 rfl (lv_at hl 1 rfl) ?_
        refine lv_iadd hx hb dX0_passYears_62 ?_
        obtain ⟨x3, h3, hf⟩ := Option.bind_eq_some_iff.mp hf
        refine w_ptV hx hb hts inX0 tyX0 tyX0_ok nmX0 hown hK hR hS rfl 8 (by decide) (hts _ tw_1_63) rfl (ty := .int) rfl rfl rfl h3 dX0_passYears_63 (fun H locs hR hS => ?_)
        refine lv_aload_n hx hb dX0_passYears_66 rfl (lv_at hl 0 rfl) ?_
        obtain ⟨x4, h4, hf⟩ := Option.bind_eq_some_iff.mp hf
        refine r_gI hx hb hts inX0 hown hK hR rfl 9 (by decide) (hts _ tw_1_65) h4 dX0_passYears_67 ?_
        exact hret _ _ _ _ _ _ dX0_passYears_70 hR hS hf
      · replace hf := (if_neg c1).symm.trans hf
        refine lv_aload_n hx hb dX0_passYears_34 rfl (lv_at hl 0 rfl) ?_
        refine lv_aload_n hx hb dX0_passYears_35 rfl (lv_at hl 0 rfl) ?_
        refine lv_aload_n hx hb dX0_passYears_36 rfl (lv_at hl 0 rfl) ?_
        obtain ⟨x5, h5, hf⟩ := Option.bind_eq_some_iff.mp hf
        refine r_gI hx hb hts inX0 hown hK hR rfl 9 (by decide) (hts _ tw_1_65) h5 dX0_passYears_37 ?_
        refine lv_aload_n hx hb dX0_passYears_40 rfl (lv_at hl 0 rfl) ?_
        obtain ⟨x6, h6, hf⟩ := Option.bind_eq_some_iff.mp hf
        refine r_gI hx hb hts inX0 hown hK hR rfl 7 (by decide) (hts _ tw_1_58) h6 dX0_passYears_41 ?_
        obtain ⟨x7, h7, hf⟩ := Option.bind_eq_some_iff.mp hf
        obtain ⟨x8, h8, hf⟩ := Option.bind_eq_some_iff.mp hf
        refine r_callV (As := [.int x5, .int x6]) (rest := [.ref v0]) (st1 := [.int x8, .ref v0]) ⟨hx, hb, hml, hown, hts⟩ (kX0_owedBehindYear l G ρ v0 x5 x6 _ h8) (cu_V hts tw_2_1 tw_1_238 tw_1_239 tw_2_0 tw_1_2 hdX0_owedBehindYear rfl rfl ⟨Nat.le_of_ble_eq_true rfl, Nat.le_of_ble_eq_true rfl⟩) hK hR rfl h7 rfl hl.1 rfl (Nat.le_of_ble_eq_true rfl) dX0_passYears_44 ⟨Nat.zero_le _, Nat.zero_le _⟩ rfl ?_
        obtain ⟨x9, h9, hf⟩ := Option.bind_eq_some_iff.mp hf
        refine w_ptV hx hb hts inX0 tyX0 tyX0_ok nmX0 hown hK hR hS rfl 9 (by decide) (hts _ tw_1_65) rfl (ty := .int) rfl rfl rfl h9 dX0_passYears_47 (fun H locs hR hS => ?_)
        refine lv_iinc (v := (v2 + 1)) (lv' := [(2, .int (v2 + 1)), (0, .ref v0), (1, .int v1)]) hx hb dX0_passYears_50 hl (k := 2) rfl rfl (by decide) rfl (fun ls hl => ?_)
        refine lv_goto (tgt := 29) hx hb dX0_passYears_53 (by decide) ?_
        exact ih x9 v0 v1 (v2 + 1) H locs ls hf (lv_sub hl [1, 2, 0] rfl) hR hS
  unfold fX0_passYears at hf
  refine lv_iload_n hx hb dX0_passYears_0 rfl (lv_at hl 1 rfl) ?_
  refine lv_iconst (v := 1) hx hb dX0_passYears_1 (by decide) ?_
  refine lv_bipush (v := 99) hx hb dX0_passYears_2 (by decide) ?_
  obtain ⟨x10, h10, hf⟩ := Option.bind_eq_some_iff.mp hf
  refine r_callS (As := [.int v1, .int 1, .int 99]) (rest := []) (st1 := [.int x10]) ⟨hx, hb, hml, hown, hts⟩ (kX0_isWithin l G ρ v1 1 99 _ h10) (cu_S hts tw_1_206 tw_1_204 tw_1_205 tw_1_2 hdX0_isWithin rfl rfl ⟨Nat.le_of_ble_eq_true rfl, Nat.le_of_ble_eq_true rfl⟩) hK hR rfl hl.1 rfl (Nat.le_of_ble_eq_true rfl) dX0_passYears_4 ⟨Nat.zero_le _, Nat.zero_le _⟩ rfl ?_
  refine lv_if_ne (tgt := 12) hx hb dX0_passYears_7 (by decide) (fun c11 => ?_) (fun c11 => ?_)
  · replace hf := (if_neg c11).symm.trans hf
    refine lv_aload_n hx hb dX0_passYears_12 rfl (lv_at hl 0 rfl) ?_
    obtain ⟨x12, h12, hf⟩ := Option.bind_eq_some_iff.mp hf
    refine r_gI hx hb hts inX0 hown hK hR rfl 8 (by decide) (hts _ tw_1_63) h12 dX0_passYears_13 ?_
    refine lv_iload_n hx hb dX0_passYears_16 rfl (lv_at hl 1 rfl) ?_
    refine lv_iadd hx hb dX0_passYears_17 ?_
    refine lv_sipush (v := 999) hx hb dX0_passYears_18 (by decide) ?_
    refine lv_icmp_le (tgt := 27) hx hb dX0_passYears_21 (by decide) (fun c13 => ?_) (fun c13 => ?_)
    · replace hf := (if_pos c13).symm.trans hf
      refine lv_iconst (v := 0) hx hb dX0_passYears_27 (by decide) ?_
      refine lv_istore_n (lv' := [(2, .int 0), (0, .ref v0), (1, .int v1)]) hx hb dX0_passYears_28 rfl hl (by decide) rfl (fun ls hl => ?_)
      exact L29 FU ρ v0 v1 0 H locs ls hf (lv_sub hl [1, 2, 0] rfl) hR hS
    · replace hf := (if_neg c13).symm.trans hf
      refine lv_bipush (v := (-3)) hx hb dX0_passYears_24 (by decide) ?_
      exact hret _ _ _ _ _ _ dX0_passYears_26 hR hS hf
  · replace hf := (if_pos c11).symm.trans hf
    refine lv_iconst (v := (-1)) hx hb dX0_passYears_10 (by decide) ?_
    exact hret _ _ _ _ _ _ dX0_passYears_11 hR hS hf
/-! BrickedUpAsBlind.House.isPayment(I)Z -/
def fX0_isPayment (ρ : Rho) (v0 : Int32) : Option Int32 :=
    (fX0_isWithin ρ v0 0 999).bind fun x1 =>
    nb x1
abbrev rX0_isPayment : Room := { frames := 1, cells := 0, slots := 0, locals := 22 }
theorem hdX0_isPayment : hdP yX0_isPayment 1 := by unfold hdP; decide +kernel
set_option maxHeartbeats 4000000 in
set_option maxRecDepth 100000 in
theorem kX0_isPayment (l : Launch) (G : GD) (ρ : Rho) (v0 : Int32) (r : Int32) (hf : fX0_isPayment ρ v0 = some r) : RM l G yX0_isPayment (Cond.code yX0_isPayment cX0_isPayment 1 (some .boolean) :: LW) rX0_isPayment ρ [.int v0] (some (.int r)) := by
  refine RM.ofZ (own := RX0) (by decide) rfl (Nat.le_of_ble_eq_true rfl) ?_
  intro p e s m args below meth c H locs Q hx hb hml hown hts hK hR hret ls hl
  replace hl : lv_has ls 1 [(0, .int v0)] := hl
  unfold fX0_isPayment at hf
  refine lv_iload_n hx hb dX0_isPayment_0 rfl (lv_at hl 0 rfl) ?_
  refine lv_iconst (v := 0) hx hb dX0_isPayment_1 (by decide) ?_
  refine lv_sipush (v := 999) hx hb dX0_isPayment_2 (by decide) ?_
  obtain ⟨x1, h1, hf⟩ := Option.bind_eq_some_iff.mp hf
  refine r_callS (As := [.int v0, .int 0, .int 999]) (rest := []) (st1 := [.int x1]) ⟨hx, hb, hml, hown, hts⟩ (kX0_isWithin l G ρ v0 0 999 _ h1) (cu_S hts tw_1_206 tw_1_204 tw_1_205 tw_1_2 hdX0_isWithin rfl rfl ⟨Nat.le_of_ble_eq_true rfl, Nat.le_of_ble_eq_true rfl⟩) hK hR rfl hl.1 rfl (Nat.le_of_ble_eq_true rfl) dX0_isPayment_5 ⟨Nat.zero_le _, Nat.zero_le _⟩ rfl ?_
  exact hret _ _ _ dX0_isPayment_8 hf
/-! BrickedUpAsBlind.House.payOff(I)I -/
def fX0_payOff (ρ : Rho) (v0 : Nat) (v1 : Int32) : Option (Int32 × Rho) :=
    (fX0_isPayment ρ v1).bind fun x1 =>
    if x1 = 0 then (some ((-1), ρ))
    else ((gI ρ 0 v0 9).bind fun x3 =>
    if v1 ≤ x3 then ((gI ρ 0 v0 9).bind fun x5 =>
    (ptV ρ 0 v0 9 (.int (x5 - v1))).bind fun x6 =>
    (gI x6 0 v0 9).bind fun x7 =>
    some (x7, x6))
    else (some ((-3), ρ)))
abbrev rX0_payOff : Room := { frames := 2, cells := 0, slots := 0, locals := 42 }
theorem hdX0_payOff : hdP yX0_payOff 1 := by unfold hdP; decide +kernel
set_option maxHeartbeats 4000000 in
set_option maxRecDepth 100000 in
theorem kX0_payOff (l : Launch) (G : GD) (ρ : Rho) (v0 : Nat) (v1 : Int32) (r0 : Int32) (ρ1 : Rho) (hf : fX0_payOff ρ v0 v1 = some (r0, ρ1)) : WM l G yX0_payOff (Cond.code yX0_payOff cX0_payOff 2 (some .int) :: LW) rX0_payOff ρ [.ref v0, .int v1] (some (.int r0)) ρ1 := by
  obtain ⟨r, hr⟩ : ∃ r, r = (r0, ρ1) := ⟨_, rfl⟩
  rw [← hr] at hf
  refine WM.ofI (own := RX0) (r := r) hr (by decide) rfl (Nat.le_of_ble_eq_true rfl) ?_
  intro p e s m args below meth c H locs Q hx hb hml hown hts hK hR hS hret ls hl
  obtain ⟨ρ0, hρ0⟩ : ∃ z, z = ρ := ⟨_, rfl⟩
  rw [← hρ0] at hret
  replace hS : WS ρ0 s.heap ρ H locs := hρ0 ▸ hS
  replace hl : lv_has ls 2 [(0, .ref v0), (1, .int v1)] := hl
  unfold fX0_payOff at hf
  refine lv_iload_n hx hb dX0_payOff_0 rfl (lv_at hl 1 rfl) ?_
  obtain ⟨x1, h1, hf⟩ := Option.bind_eq_some_iff.mp hf
  refine r_callS (As := [.int v1]) (rest := []) (st1 := [.int x1]) ⟨hx, hb, hml, hown, hts⟩ (kX0_isPayment l G ρ v1 _ h1) (cu_S hts tw_2_29 tw_2_27 tw_2_28 tw_1_2 hdX0_isPayment rfl rfl ⟨Nat.le_of_ble_eq_true rfl, Nat.le_of_ble_eq_true rfl⟩) hK hR rfl hl.1 rfl (Nat.le_of_ble_eq_true rfl) dX0_payOff_1 ⟨Nat.zero_le _, Nat.zero_le _⟩ rfl ?_
  refine lv_if_ne (tgt := 9) hx hb dX0_payOff_4 (by decide) (fun c2 => ?_) (fun c2 => ?_)
  · replace hf := (if_neg c2).symm.trans hf
    refine lv_iload_n hx hb dX0_payOff_9 rfl (lv_at hl 1 rfl) ?_
    refine lv_aload_n hx hb dX0_payOff_10 rfl (lv_at hl 0 rfl) ?_
    obtain ⟨x3, h3, hf⟩ := Option.bind_eq_some_iff.mp hf
    refine r_gI hx hb hts inX0 hown hK hR rfl 9 (by decide) (hts _ tw_1_65) h3 dX0_payOff_11 ?_
    refine lv_icmp_le (tgt := 20) hx hb dX0_payOff_14 (by decide) (fun c4 => ?_) (fun c4 => ?_)
    · replace hf := (if_pos c4).symm.trans hf
      refine lv_aload_n hx hb dX0_payOff_20 rfl (lv_at hl 0 rfl) ?_
      refine lv_dup hx hb dX0_payOff_21 rfl ?_
      obtain ⟨x5, h5, hf⟩ := Option.bind_eq_some_iff.mp hf
      refine r_gI hx hb hts inX0 hown hK hR rfl 9 (by decide) (hts _ tw_1_65) h5 dX0_payOff_22 ?_
      refine lv_iload_n hx hb dX0_payOff_25 rfl (lv_at hl 1 rfl) ?_
      refine lv_isub hx hb dX0_payOff_26 ?_
      obtain ⟨x6, h6, hf⟩ := Option.bind_eq_some_iff.mp hf
      refine w_ptV hx hb hts inX0 tyX0 tyX0_ok nmX0 hown hK hR hS rfl 9 (by decide) (hts _ tw_1_65) rfl (ty := .int) rfl rfl rfl h6 dX0_payOff_27 (fun H locs hR hS => ?_)
      refine lv_aload_n hx hb dX0_payOff_30 rfl (lv_at hl 0 rfl) ?_
      obtain ⟨x7, h7, hf⟩ := Option.bind_eq_some_iff.mp hf
      refine r_gI hx hb hts inX0 hown hK hR rfl 9 (by decide) (hts _ tw_1_65) h7 dX0_payOff_31 ?_
      exact hret _ _ _ _ _ _ dX0_payOff_34 hR hS hf
    · replace hf := (if_neg c4).symm.trans hf
      refine lv_bipush (v := (-3)) hx hb dX0_payOff_17 (by decide) ?_
      exact hret _ _ _ _ _ _ dX0_payOff_19 hR hS hf
  · replace hf := (if_pos c2).symm.trans hf
    refine lv_iconst (v := (-1)) hx hb dX0_payOff_7 (by decide) ?_
    exact hret _ _ _ _ _ _ dX0_payOff_8 hR hS hf
/-! BrickedUpAsBlind.House.shineOf(II)I -/
def fX0_shineOf (ρ : Rho) (v0 : Nat) (v1 : Int32) (v2 : Int32) : Option Int32 :=
    (ckO ρ 0 v0).bind fun x1 =>
    (fX0_isStopped ρ v0 v1).bind fun x2 =>
    if x2 = 0 then ((gR ρ 0 v0 0).bind fun x4 =>
    (ldI ρ x4 v1).bind fun x5 =>
    (gR ρ 0 v0 1).bind fun x6 =>
    (ldI ρ x6 v1).bind fun x7 =>
    (gR ρ 0 v0 3).bind fun x8 =>
    (ldI ρ x8 v1).bind fun x9 =>
    (fX1_apart ρ x9 v2).bind fun x10 =>
    (fX1_shine ρ x5 x7 x10).bind fun x11 =>
    some x11)
    else (some 0)
abbrev rX0_shineOf : Room := { frames := 1, cells := 0, slots := 0, locals := 23 }
theorem hdX0_shineOf : hdP yX0_shineOf 2 := by unfold hdP; decide +kernel
set_option maxHeartbeats 4000000 in
set_option maxRecDepth 100000 in
theorem kX0_shineOf (l : Launch) (G : GD) (ρ : Rho) (v0 : Nat) (v1 : Int32) (v2 : Int32) (r : Int32) (hf : fX0_shineOf ρ v0 v1 v2 = some r) : RM l G yX0_shineOf (Cond.code yX0_shineOf cX0_shineOf 3 (some .int) :: LW) rX0_shineOf ρ [.ref v0, .int v1, .int v2] (some (.int r)) := by
  refine RM.ofI (own := RX0) (by decide) rfl (Nat.le_of_ble_eq_true rfl) ?_
  intro p e s m args below meth c H locs Q hx hb hml hown hts hK hR hret ls hl
  replace hl : lv_has ls 3 [(0, .ref v0), (1, .int v1), (2, .int v2)] := hl
  unfold fX0_shineOf at hf
  refine lv_aload_n hx hb dX0_shineOf_0 rfl (lv_at hl 0 rfl) ?_
  refine lv_iload_n hx hb dX0_shineOf_1 rfl (lv_at hl 1 rfl) ?_
  obtain ⟨x1, h1, hf⟩ := Option.bind_eq_some_iff.mp hf
  obtain ⟨x2, h2, hf⟩ := Option.bind_eq_some_iff.mp hf
  refine r_callV (As := [.int v1]) (rest := []) (st1 := [.int x2]) ⟨hx, hb, hml, hown, hts⟩ (kX0_isStopped l G ρ v0 v1 _ h2) (cu_V hts tw_1_225 tw_1_222 tw_1_223 tw_1_224 tw_1_2 hdX0_isStopped rfl rfl ⟨Nat.le_of_ble_eq_true rfl, Nat.le_of_ble_eq_true rfl⟩) hK hR rfl h1 rfl hl.1 rfl (Nat.le_of_ble_eq_true rfl) dX0_shineOf_2 ⟨Nat.zero_le _, Nat.zero_le _⟩ rfl ?_
  refine lv_if_eq (tgt := 12) hx hb dX0_shineOf_5 (by decide) (fun c3 => ?_) (fun c3 => ?_)
  · replace hf := (if_pos c3).symm.trans hf
    refine lv_aload_n hx hb dX0_shineOf_12 rfl (lv_at hl 0 rfl) ?_
    obtain ⟨x4, h4, hf⟩ := Option.bind_eq_some_iff.mp hf
    refine r_gR hx hb hts inX0 hown hK hR rfl 0 (by decide) (hts _ tw_1_35) h4 dX0_shineOf_13 ?_
    refine lv_iload_n hx hb dX0_shineOf_16 rfl (lv_at hl 1 rfl) ?_
    obtain ⟨x5, h5, hf⟩ := Option.bind_eq_some_iff.mp hf
    refine r_ldI hx hb hK hR h5 dX0_shineOf_17 ?_
    refine lv_aload_n hx hb dX0_shineOf_18 rfl (lv_at hl 0 rfl) ?_
    obtain ⟨x6, h6, hf⟩ := Option.bind_eq_some_iff.mp hf
    refine r_gR hx hb hts inX0 hown hK hR rfl 1 (by decide) (hts _ tw_1_39) h6 dX0_shineOf_19 ?_
    refine lv_iload_n hx hb dX0_shineOf_22 rfl (lv_at hl 1 rfl) ?_
    obtain ⟨x7, h7, hf⟩ := Option.bind_eq_some_iff.mp hf
    refine r_ldI hx hb hK hR h7 dX0_shineOf_23 ?_
    refine lv_aload_n hx hb dX0_shineOf_24 rfl (lv_at hl 0 rfl) ?_
    obtain ⟨x8, h8, hf⟩ := Option.bind_eq_some_iff.mp hf
    refine r_gR hx hb hts inX0 hown hK hR rfl 3 (by decide) (hts _ tw_1_45) h8 dX0_shineOf_25 ?_
    refine lv_iload_n hx hb dX0_shineOf_28 rfl (lv_at hl 1 rfl) ?_
    obtain ⟨x9, h9, hf⟩ := Option.bind_eq_some_iff.mp hf
    refine r_ldI hx hb hK hR h9 dX0_shineOf_29 ?_
    refine lv_iload_n hx hb dX0_shineOf_30 rfl (lv_at hl 2 rfl) ?_
    obtain ⟨x10, h10, hf⟩ := Option.bind_eq_some_iff.mp hf
    refine r_callS (As := [.int x9, .int v2]) (rest := [.int x7, .int x5]) (st1 := [.int x10, .int x7, .int x5]) ⟨hx, hb, hml, hown, hts⟩ (kX1_apart l G ρ x9 v2 _ h10) (cu_S hts tw_2_15 tw_2_13 tw_2_14 tw_1_7 hdX1_apart rfl rfl ⟨Nat.le_of_ble_eq_true rfl, Nat.le_of_ble_eq_true rfl⟩) hK hR rfl hl.1 rfl (Nat.le_of_ble_eq_true rfl) dX0_shineOf_31 ⟨Nat.zero_le _, Nat.zero_le _⟩ rfl ?_
    obtain ⟨x11, h11, hf⟩ := Option.bind_eq_some_iff.mp hf
    refine r_callS (As := [.int x5, .int x7, .int x10]) (rest := []) (st1 := [.int x11]) ⟨hx, hb, hml, hown, hts⟩ (kX1_shine l G ρ x5 x7 x10 _ h11) (cu_S hts tw_2_48 tw_2_46 tw_2_47 tw_1_7 hdX1_shine rfl rfl ⟨Nat.le_of_ble_eq_true rfl, Nat.le_of_ble_eq_true rfl⟩) hK hR rfl hl.1 rfl (Nat.le_of_ble_eq_true rfl) dX0_shineOf_34 ⟨Nat.zero_le _, Nat.zero_le _⟩ rfl ?_
    exact hret _ _ _ dX0_shineOf_37 hf
  · replace hf := (if_neg c3).symm.trans hf
    refine lv_iconst (v := 0) hx hb dX0_shineOf_8 (by decide) ?_
    refine lv_goto (tgt := 37) hx hb dX0_shineOf_9 (by decide) ?_
    exact hret _ _ _ dX0_shineOf_37 hf
/-! BrickedUpAsBlind.House.unstoppedSeeming(II)I -/
def fX0_unstoppedSeeming (ρ : Rho) (v0 : Nat) (v1 : Int32) (v2 : Int32) : Option Int32 :=
    (gR ρ 0 v0 0).bind fun x1 =>
    (ldI ρ x1 v1).bind fun x2 =>
    (gR ρ 0 v0 1).bind fun x3 =>
    (ldI ρ x3 v1).bind fun x4 =>
    (gR ρ 0 v0 3).bind fun x5 =>
    (ldI ρ x5 v1).bind fun x6 =>
    (fX1_apart ρ x6 v2).bind fun x7 =>
    (fX1_seeming ρ x2 x4 x7 v2).bind fun x8 =>
    some x8
abbrev rX0_unstoppedSeeming : Room := { frames := 2, cells := 0, slots := 0, locals := 88 }
theorem hdX0_unstoppedSeeming : hdP yX0_unstoppedSeeming 2 := by unfold hdP; decide +kernel
set_option maxHeartbeats 4000000 in
set_option maxRecDepth 100000 in
theorem kX0_unstoppedSeeming (l : Launch) (G : GD) (ρ : Rho) (v0 : Nat) (v1 : Int32) (v2 : Int32) (r : Int32) (hf : fX0_unstoppedSeeming ρ v0 v1 v2 = some r) : RM l G yX0_unstoppedSeeming (Cond.code yX0_unstoppedSeeming cX0_unstoppedSeeming 3 (some .int) :: LW) rX0_unstoppedSeeming ρ [.ref v0, .int v1, .int v2] (some (.int r)) := by
  refine RM.ofI (own := RX0) (by decide) rfl (Nat.le_of_ble_eq_true rfl) ?_
  intro p e s m args below meth c H locs Q hx hb hml hown hts hK hR hret ls hl
  replace hl : lv_has ls 3 [(0, .ref v0), (1, .int v1), (2, .int v2)] := hl
  unfold fX0_unstoppedSeeming at hf
  refine lv_aload_n hx hb dX0_unstoppedSeeming_0 rfl (lv_at hl 0 rfl) ?_
  obtain ⟨x1, h1, hf⟩ := Option.bind_eq_some_iff.mp hf
  refine r_gR hx hb hts inX0 hown hK hR rfl 0 (by decide) (hts _ tw_1_35) h1 dX0_unstoppedSeeming_1 ?_
  refine lv_iload_n hx hb dX0_unstoppedSeeming_4 rfl (lv_at hl 1 rfl) ?_
  obtain ⟨x2, h2, hf⟩ := Option.bind_eq_some_iff.mp hf
  refine r_ldI hx hb hK hR h2 dX0_unstoppedSeeming_5 ?_
  refine lv_aload_n hx hb dX0_unstoppedSeeming_6 rfl (lv_at hl 0 rfl) ?_
  obtain ⟨x3, h3, hf⟩ := Option.bind_eq_some_iff.mp hf
  refine r_gR hx hb hts inX0 hown hK hR rfl 1 (by decide) (hts _ tw_1_39) h3 dX0_unstoppedSeeming_7 ?_
  refine lv_iload_n hx hb dX0_unstoppedSeeming_10 rfl (lv_at hl 1 rfl) ?_
  obtain ⟨x4, h4, hf⟩ := Option.bind_eq_some_iff.mp hf
  refine r_ldI hx hb hK hR h4 dX0_unstoppedSeeming_11 ?_
  refine lv_aload_n hx hb dX0_unstoppedSeeming_12 rfl (lv_at hl 0 rfl) ?_
  obtain ⟨x5, h5, hf⟩ := Option.bind_eq_some_iff.mp hf
  refine r_gR hx hb hts inX0 hown hK hR rfl 3 (by decide) (hts _ tw_1_45) h5 dX0_unstoppedSeeming_13 ?_
  refine lv_iload_n hx hb dX0_unstoppedSeeming_16 rfl (lv_at hl 1 rfl) ?_
  obtain ⟨x6, h6, hf⟩ := Option.bind_eq_some_iff.mp hf
  refine r_ldI hx hb hK hR h6 dX0_unstoppedSeeming_17 ?_
  refine lv_iload_n hx hb dX0_unstoppedSeeming_18 rfl (lv_at hl 2 rfl) ?_
  obtain ⟨x7, h7, hf⟩ := Option.bind_eq_some_iff.mp hf
  refine r_callS (As := [.int x6, .int v2]) (rest := [.int x4, .int x2]) (st1 := [.int x7, .int x4, .int x2]) ⟨hx, hb, hml, hown, hts⟩ (kX1_apart l G ρ x6 v2 _ h7) (cu_S hts tw_2_15 tw_2_13 tw_2_14 tw_1_7 hdX1_apart rfl rfl ⟨Nat.le_of_ble_eq_true rfl, Nat.le_of_ble_eq_true rfl⟩) hK hR rfl hl.1 rfl (Nat.le_of_ble_eq_true rfl) dX0_unstoppedSeeming_19 ⟨Nat.zero_le _, Nat.zero_le _⟩ rfl ?_
  refine lv_iload_n hx hb dX0_unstoppedSeeming_22 rfl (lv_at hl 2 rfl) ?_
  obtain ⟨x8, h8, hf⟩ := Option.bind_eq_some_iff.mp hf
  refine r_callS (As := [.int x2, .int x4, .int x7, .int v2]) (rest := []) (st1 := [.int x8]) ⟨hx, hb, hml, hown, hts⟩ (kX1_seeming l G ρ x2 x4 x7 v2 _ h8) (cu_S hts tw_2_60 tw_2_58 tw_2_59 tw_1_7 hdX1_seeming rfl rfl ⟨Nat.le_of_ble_eq_true rfl, Nat.le_of_ble_eq_true rfl⟩) hK hR rfl hl.1 rfl (Nat.le_of_ble_eq_true rfl) dX0_unstoppedSeeming_23 ⟨Nat.zero_le _, Nat.zero_le _⟩ rfl ?_
  exact hret _ _ _ dX0_unstoppedSeeming_26 hf
/-! BrickedUpAsBlind.House.seemingOf(II)I -/
def fX0_seemingOf (ρ : Rho) (v0 : Nat) (v1 : Int32) (v2 : Int32) : Option Int32 :=
    (ckO ρ 0 v0).bind fun x1 =>
    (fX0_isStopped ρ v0 v1).bind fun x2 =>
    if x2 = 0 then ((ckO ρ 0 v0).bind fun x4 =>
    (fX0_unstoppedSeeming ρ v0 v1 v2).bind fun x5 =>
    some x5)
    else (some 0)
abbrev rX0_seemingOf : Room := { frames := 3, cells := 0, slots := 0, locals := 110 }
theorem hdX0_seemingOf : hdP yX0_seemingOf 2 := by unfold hdP; decide +kernel
set_option maxHeartbeats 4000000 in
set_option maxRecDepth 100000 in
theorem kX0_seemingOf (l : Launch) (G : GD) (ρ : Rho) (v0 : Nat) (v1 : Int32) (v2 : Int32) (r : Int32) (hf : fX0_seemingOf ρ v0 v1 v2 = some r) : RM l G yX0_seemingOf (Cond.code yX0_seemingOf cX0_seemingOf 3 (some .int) :: LW) rX0_seemingOf ρ [.ref v0, .int v1, .int v2] (some (.int r)) := by
  refine RM.ofI (own := RX0) (by decide) rfl (Nat.le_of_ble_eq_true rfl) ?_
  intro p e s m args below meth c H locs Q hx hb hml hown hts hK hR hret ls hl
  replace hl : lv_has ls 3 [(0, .ref v0), (1, .int v1), (2, .int v2)] := hl
  unfold fX0_seemingOf at hf
  refine lv_aload_n hx hb dX0_seemingOf_0 rfl (lv_at hl 0 rfl) ?_
  refine lv_iload_n hx hb dX0_seemingOf_1 rfl (lv_at hl 1 rfl) ?_
  obtain ⟨x1, h1, hf⟩ := Option.bind_eq_some_iff.mp hf
  obtain ⟨x2, h2, hf⟩ := Option.bind_eq_some_iff.mp hf
  refine r_callV (As := [.int v1]) (rest := []) (st1 := [.int x2]) ⟨hx, hb, hml, hown, hts⟩ (kX0_isStopped l G ρ v0 v1 _ h2) (cu_V hts tw_1_225 tw_1_222 tw_1_223 tw_1_224 tw_1_2 hdX0_isStopped rfl rfl ⟨Nat.le_of_ble_eq_true rfl, Nat.le_of_ble_eq_true rfl⟩) hK hR rfl h1 rfl hl.1 rfl (Nat.le_of_ble_eq_true rfl) dX0_seemingOf_2 ⟨Nat.zero_le _, Nat.zero_le _⟩ rfl ?_
  refine lv_if_eq (tgt := 12) hx hb dX0_seemingOf_5 (by decide) (fun c3 => ?_) (fun c3 => ?_)
  · replace hf := (if_pos c3).symm.trans hf
    refine lv_aload_n hx hb dX0_seemingOf_12 rfl (lv_at hl 0 rfl) ?_
    refine lv_iload_n hx hb dX0_seemingOf_13 rfl (lv_at hl 1 rfl) ?_
    refine lv_iload_n hx hb dX0_seemingOf_14 rfl (lv_at hl 2 rfl) ?_
    obtain ⟨x4, h4, hf⟩ := Option.bind_eq_some_iff.mp hf
    obtain ⟨x5, h5, hf⟩ := Option.bind_eq_some_iff.mp hf
    refine r_callV (As := [.int v1, .int v2]) (rest := []) (st1 := [.int x5]) ⟨hx, hb, hml, hown, hts⟩ (kX0_unstoppedSeeming l G ρ v0 v1 v2 _ h5) (cu_V hts tw_2_57 tw_2_54 tw_2_55 tw_2_56 tw_1_2 hdX0_unstoppedSeeming rfl rfl ⟨Nat.le_of_ble_eq_true rfl, Nat.le_of_ble_eq_true rfl⟩) hK hR rfl h4 rfl hl.1 rfl (Nat.le_of_ble_eq_true rfl) dX0_seemingOf_15 ⟨Nat.zero_le _, Nat.zero_le _⟩ rfl ?_
    exact hret _ _ _ dX0_seemingOf_18 hf
  · replace hf := (if_neg c3).symm.trans hf
    refine lv_iconst (v := 0) hx hb dX0_seemingOf_8 (by decide) ?_
    refine lv_goto (tgt := 18) hx hb dX0_seemingOf_9 (by decide) ?_
    exact hret _ _ _ dX0_seemingOf_18 hf
/-! BrickedUpAsBlind.House.roomLight(II)I -/
def fX0_roomLight_35 (ρ : Rho) (k5 : Nat → Int32 → Int32 → Int32 → Int32 → Option Int32) (v0 : Nat) (v1 : Int32) (v2 : Int32) (v3 : Int32) (v4 : Int32) : Option Int32 :=
    k5 v0 v1 v2 v3 (v4 + 1)
def fX0_roomLight_5 (ρ : Rho) : Nat → Nat → Int32 → Int32 → Int32 → Int32 → Option Int32
  | 0, _, _, _, _, _ => none
  | n + 1, v0, v1, v2, v3, v4 =>
    (gI ρ 0 v0 5).bind fun x1 =>
    if x1 ≤ v4 then (some v3)
    else ((gR ρ 0 v0 2).bind fun x3 =>
    (ldI ρ x3 v4).bind fun x4 =>
    if x4 = v1 then ((ckO ρ 0 v0).bind fun x6 =>
    (fX0_shineOf ρ v0 v4 v2).bind fun x7 =>
    fX0_roomLight_35 ρ (fX0_roomLight_5 ρ n) v0 v1 v2 (v3 + x7) v4)
    else (fX0_roomLight_35 ρ (fX0_roomLight_5 ρ n) v0 v1 v2 v3 v4))
def fX0_roomLight (ρ : Rho) (v0 : Nat) (v1 : Int32) (v2 : Int32) : Option Int32 :=
    fX0_roomLight_5 ρ FU v0 v1 v2 0 0
abbrev rX0_roomLight : Room := { frames := 2, cells := 0, slots := 0, locals := 45 }
theorem hdX0_roomLight : hdP yX0_roomLight 2 := by unfold hdP; decide +kernel
set_option maxHeartbeats 4000000 in
set_option maxRecDepth 100000 in
theorem kX0_roomLight (l : Launch) (G : GD) (ρ : Rho) (v0 : Nat) (v1 : Int32) (v2 : Int32) (r : Int32) (hf : fX0_roomLight ρ v0 v1 v2 = some r) : RM l G yX0_roomLight (Cond.code yX0_roomLight cX0_roomLight 5 (some .int) :: LW) rX0_roomLight ρ [.ref v0, .int v1, .int v2] (some (.int r)) := by
  refine RM.ofI (own := RX0) (by decide) rfl (Nat.le_of_ble_eq_true rfl) ?_
  intro p e s m args below meth c H locs Q hx hb hml hown hts hK hR hret ls hl
  replace hl : lv_has ls 5 [(0, .ref v0), (1, .int v1), (2, .int v2)] := hl
  have J35 : ∀ (k5 : Nat → Int32 → Int32 → Int32 → Int32 → Option Int32) (_ : ∀ (v0 : Nat) (v1 : Int32) (v2 : Int32) (v3 : Int32) (v4 : Int32) (ls : Array Slot), k5 v0 v1 v2 v3 v4 = some r → lv_has ls 5 [(0, .ref v0), (1, .int v1), (2, .int v2), (3, .int v3), (4, .int v4)] → W p l e rX0_roomLight s m args below meth c H locs 0 0 Q (F0 m 5 ls [])), ∀ (v0 : Nat) (v1 : Int32) (v2 : Int32) (v3 : Int32) (v4 : Int32) (ls : Array Slot), fX0_roomLight_35 ρ k5 v0 v1 v2 v3 v4 = some r → lv_has ls 5 [(0, .ref v0), (1, .int v1), (2, .int v2), (3, .int v3), (4, .int v4)] → W p l e rX0_roomLight s m args below meth c H locs 0 0 Q (F0 m 35 ls []) := by
    intro k5 hk5 v0 v1 v2 v3 v4 ls hf hl
    rw [fX0_roomLight_35] at hf
    refine lv_iinc (v := (v4 + 1)) (lv' := [(4, .int (v4 + 1)), (0, .ref v0), (1, .int v1), (2, .int v2), (3, .int v3)]) hx hb dX0_roomLight_35 hl (k := 4) rfl rfl (by decide) rfl (fun ls hl => ?_)
    refine lv_goto (tgt := 5) hx hb dX0_roomLight_38 (by decide) ?_
    exact hk5 v0 v1 v2 v3 (v4 + 1) ls hf (lv_sub hl [1, 2, 3, 4, 0] rfl)
  have L5 : ∀ (n : Nat) (v0 : Nat) (v1 : Int32) (v2 : Int32) (v3 : Int32) (v4 : Int32) (ls : Array Slot), fX0_roomLight_5 ρ n v0 v1 v2 v3 v4 = some r → lv_has ls 5 [(0, .ref v0), (1, .int v1), (2, .int v2), (3, .int v3), (4, .int v4)] → W p l e rX0_roomLight s m args below meth c H locs 0 0 Q (F0 m 5 ls []) := by
    intro n
    induction n with
    | zero =>
      intro v0 v1 v2 v3 v4 ls hf
      rw [fX0_roomLight_5] at hf
      cases hf
    | succ n ih =>
      intro v0 v1 v2 v3 v4 ls hf hl
      rw [fX0_roomLight_5] at hf
      refine lv_iload hx hb dX0_roomLight_5 (lv_at hl 4 rfl) ?_
      refine lv_aload_n hx hb dX0_roomLight_7 rfl (lv_at hl 0 rfl) ?_
      obtain ⟨x1, h1, hf⟩ := Option.bind_eq_some_iff.mp hf
      refine r_gI hx hb hts inX0 hown hK hR rfl 5 (by decide) (hts _ tw_1_48) h1 dX0_roomLight_8 ?_
      refine lv_icmp_ge (tgt := 41) hx hb dX0_roomLight_11 (by decide) (fun c2 => ?_) (fun c2 => ?_)
      · replace hf := (if_pos c2).symm.trans hf
        refine lv_iload_n hx hb dX0_roomLight_41 rfl (lv_at hl 3 rfl) ?_
        exact hret _ _ _ dX0_roomLight_42 hf
      · replace hf := (if_neg c2).symm.trans hf
        refine lv_aload_n hx hb dX0_roomLight_14 rfl (lv_at hl 0 rfl) ?_
        obtain ⟨x3, h3, hf⟩ := Option.bind_eq_some_iff.mp hf
        refine r_gR hx hb hts inX0 hown hK hR rfl 2 (by decide) (hts _ tw_1_43) h3 dX0_roomLight_15 ?_
        refine lv_iload hx hb dX0_roomLight_18 (lv_at hl 4 rfl) ?_
        obtain ⟨x4, h4, hf⟩ := Option.bind_eq_some_iff.mp hf
        refine r_ldI hx hb hK hR h4 dX0_roomLight_20 ?_
        refine lv_iload_n hx hb dX0_roomLight_21 rfl (lv_at hl 1 rfl) ?_
        refine lv_icmp_ne (tgt := 35) hx hb dX0_roomLight_22 (by decide) (fun c5 => ?_) (fun c5 => ?_)
        · replace hf := (if_neg c5).symm.trans hf
          exact J35 _ ih v0 v1 v2 v3 v4 ls hf (lv_sub hl [0, 1, 2, 3, 4] rfl)
        · replace hf := (if_pos c5).symm.trans hf
          refine lv_iload_n hx hb dX0_roomLight_25 rfl (lv_at hl 3 rfl) ?_
          refine lv_aload_n hx hb dX0_roomLight_26 rfl (lv_at hl 0 rfl) ?_
          refine lv_iload hx hb dX0_roomLight_27 (lv_at hl 4 rfl) ?_
          refine lv_iload_n hx hb dX0_roomLight_29 rfl (lv_at hl 2 rfl) ?_
          obtain ⟨x6, h6, hf⟩ := Option.bind_eq_some_iff.mp hf
          obtain ⟨x7, h7, hf⟩ := Option.bind_eq_some_iff.mp hf
          refine r_callV (As := [.int v4, .int v2]) (rest := [.int v3]) (st1 := [.int x7, .int v3]) ⟨hx, hb, hml, hown, hts⟩ (kX0_shineOf l G ρ v0 v4 v2 _ h7) (cu_V hts tw_2_45 tw_2_109 tw_2_43 tw_2_44 tw_1_2 hdX0_shineOf rfl rfl ⟨Nat.le_of_ble_eq_true rfl, Nat.le_of_ble_eq_true rfl⟩) hK hR rfl h6 rfl hl.1 rfl (Nat.le_of_ble_eq_true rfl) dX0_roomLight_30 ⟨Nat.zero_le _, Nat.zero_le _⟩ rfl ?_
          refine lv_iadd hx hb dX0_roomLight_33 ?_
          refine lv_istore_n (lv' := [(3, .int (v3 + x7)), (0, .ref v0), (1, .int v1), (2, .int v2), (4, .int v4)]) hx hb dX0_roomLight_34 rfl hl (by decide) rfl (fun ls hl => ?_)
          exact J35 _ ih v0 v1 v2 (v3 + x7) v4 ls hf (lv_sub hl [1, 2, 3, 0, 4] rfl)
  unfold fX0_roomLight at hf
  refine lv_iconst (v := 0) hx hb dX0_roomLight_0 (by decide) ?_
  refine lv_istore_n (lv' := [(3, .int 0), (0, .ref v0), (1, .int v1), (2, .int v2)]) hx hb dX0_roomLight_1 rfl hl (by decide) rfl (fun ls hl => ?_)
  refine lv_iconst (v := 0) hx hb dX0_roomLight_2 (by decide) ?_
  refine lv_istore (lv' := [(4, .int 0), (3, .int 0), (0, .ref v0), (1, .int v1), (2, .int v2)]) hx hb dX0_roomLight_3 hl (by decide) rfl (fun ls hl => ?_)
  exact L5 FU v0 v1 v2 0 0 ls hf (lv_sub hl [2, 3, 4, 1, 0] rfl)
/-! BrickedUpAsBlind.House.lackOf(II)I -/
def fX0_lackOf (ρ : Rho) (v0 : Nat) (v1 : Int32) (v2 : Int32) : Option Int32 :=
    (gR ρ 0 v0 4).bind fun x1 =>
    (ldI ρ x1 v1).bind fun x2 =>
    if x2 = 0 then (some 0)
    else ((gR ρ 0 v0 4).bind fun x4 =>
    (ldI ρ x4 v1).bind fun x5 =>
    (ckO ρ 0 v0).bind fun x6 =>
    (fX0_roomLight ρ v0 v1 v2).bind fun x7 =>
    some (if (0 : Int32) < (x5 - x7) then (x5 - x7) else 0))
abbrev rX0_lackOf : Room := { frames := 3, cells := 0, slots := 0, locals := 69 }
theorem hdX0_lackOf : hdP yX0_lackOf 2 := by unfold hdP; decide +kernel
set_option maxHeartbeats 4000000 in
set_option maxRecDepth 100000 in
theorem kX0_lackOf (l : Launch) (G : GD) (ρ : Rho) (v0 : Nat) (v1 : Int32) (v2 : Int32) (r : Int32) (hf : fX0_lackOf ρ v0 v1 v2 = some r) : RM l G yX0_lackOf (Cond.code yX0_lackOf cX0_lackOf 3 (some .int) :: LW) rX0_lackOf ρ [.ref v0, .int v1, .int v2] (some (.int r)) := by
  refine RM.ofI (own := RX0) (by decide) rfl (Nat.le_of_ble_eq_true rfl) ?_
  intro p e s m args below meth c H locs Q hx hb hml hown hts hK hR hret ls hl
  replace hl : lv_has ls 3 [(0, .ref v0), (1, .int v1), (2, .int v2)] := hl
  unfold fX0_lackOf at hf
  refine lv_aload_n hx hb dX0_lackOf_0 rfl (lv_at hl 0 rfl) ?_
  obtain ⟨x1, h1, hf⟩ := Option.bind_eq_some_iff.mp hf
  refine r_gR hx hb hts inX0 hown hK hR rfl 4 (by decide) (hts _ tw_1_47) h1 dX0_lackOf_1 ?_
  refine lv_iload_n hx hb dX0_lackOf_4 rfl (lv_at hl 1 rfl) ?_
  obtain ⟨x2, h2, hf⟩ := Option.bind_eq_some_iff.mp hf
  refine r_ldI hx hb hK hR h2 dX0_lackOf_5 ?_
  refine lv_if_ne (tgt := 13) hx hb dX0_lackOf_6 (by decide) (fun c3 => ?_) (fun c3 => ?_)
  · replace hf := (if_neg c3).symm.trans hf
    refine lv_iconst (v := 0) hx hb dX0_lackOf_13 (by decide) ?_
    refine lv_aload_n hx hb dX0_lackOf_14 rfl (lv_at hl 0 rfl) ?_
    obtain ⟨x4, h4, hf⟩ := Option.bind_eq_some_iff.mp hf
    refine r_gR hx hb hts inX0 hown hK hR rfl 4 (by decide) (hts _ tw_1_47) h4 dX0_lackOf_15 ?_
    refine lv_iload_n hx hb dX0_lackOf_18 rfl (lv_at hl 1 rfl) ?_
    obtain ⟨x5, h5, hf⟩ := Option.bind_eq_some_iff.mp hf
    refine r_ldI hx hb hK hR h5 dX0_lackOf_19 ?_
    refine lv_aload_n hx hb dX0_lackOf_20 rfl (lv_at hl 0 rfl) ?_
    refine lv_iload_n hx hb dX0_lackOf_21 rfl (lv_at hl 1 rfl) ?_
    refine lv_iload_n hx hb dX0_lackOf_22 rfl (lv_at hl 2 rfl) ?_
    obtain ⟨x6, h6, hf⟩ := Option.bind_eq_some_iff.mp hf
    obtain ⟨x7, h7, hf⟩ := Option.bind_eq_some_iff.mp hf
    refine r_callV (As := [.int v1, .int v2]) (rest := [.int x5, .int 0]) (st1 := [.int x7, .int x5, .int 0]) ⟨hx, hb, hml, hown, hts⟩ (kX0_roomLight l G ρ v0 v1 v2 _ h7) (cu_V hts tw_2_108 tw_2_134 tw_2_106 tw_2_107 tw_1_2 hdX0_roomLight rfl rfl ⟨Nat.le_of_ble_eq_true rfl, Nat.le_of_ble_eq_true rfl⟩) hK hR rfl h6 rfl hl.1 rfl (Nat.le_of_ble_eq_true rfl) dX0_lackOf_23 ⟨Nat.zero_le _, Nat.zero_le _⟩ rfl ?_
    refine lv_isub hx hb dX0_lackOf_26 ?_
    refine va_mmax hx hb (hml.trans hl.1.symm) hown (hts _ tw_2_135) (hts _ tw_2_62) (hts _ tw_1_8) (hts _ tw_2_63) (Nat.le_of_ble_eq_true rfl) (Nat.le_of_ble_eq_true rfl) (Nat.zero_le _) (Nat.zero_le _) dX0_lackOf_27 ?_
    exact hret _ _ _ dX0_lackOf_30 hf
  · replace hf := (if_pos c3).symm.trans hf
    refine lv_iconst (v := 0) hx hb dX0_lackOf_9 (by decide) ?_
    refine lv_goto (tgt := 30) hx hb dX0_lackOf_10 (by decide) ?_
    exact hret _ _ _ dX0_lackOf_30 hf
/-! BrickedUpAsBlind.House.isAnyLacking(I)Z -/
def fX0_isAnyLacking_2 (ρ : Rho) : Nat → Nat → Int32 → Int32 → Option Int32
  | 0, _, _, _ => none
  | n + 1, v0, v1, v2 =>
    if (4 : Int32) ≤ v2 then (nb 0)
    else ((ckO ρ 0 v0).bind fun x2 =>
    (fX0_lackOf ρ v0 v2 v1).bind fun x3 =>
    if x3 ≤ 0 then (fX0_isAnyLacking_2 ρ n v0 v1 (v2 + 1))
    else (nb 1))
def fX0_isAnyLacking (ρ : Rho) (v0 : Nat) (v1 : Int32) : Option Int32 :=
    fX0_isAnyLacking_2 ρ FU v0 v1 0
abbrev rX0_isAnyLacking : Room := { frames := 4, cells := 0, slots := 0, locals := 91 }
theorem hdX0_isAnyLacking : hdP yX0_isAnyLacking 1 := by unfold hdP; decide +kernel
set_option maxHeartbeats 4000000 in
set_option maxRecDepth 100000 in
theorem kX0_isAnyLacking (l : Launch) (G : GD) (ρ : Rho) (v0 : Nat) (v1 : Int32) (r : Int32) (hf : fX0_isAnyLacking ρ v0 v1 = some r) : RM l G yX0_isAnyLacking (Cond.code yX0_isAnyLacking cX0_isAnyLacking 3 (some .boolean) :: LW) rX0_isAnyLacking ρ [.ref v0, .int v1] (some (.int r)) := by
  refine RM.ofZ (own := RX0) (by decide) rfl (Nat.le_of_ble_eq_true rfl) ?_
  intro p e s m args below meth c H locs Q hx hb hml hown hts hK hR hret ls hl
  replace hl : lv_has ls 3 [(0, .ref v0), (1, .int v1)] := hl
  have L2 : ∀ (n : Nat) (v0 : Nat) (v1 : Int32) (v2 : Int32) (ls : Array Slot), fX0_isAnyLacking_2 ρ n v0 v1 v2 = some r → lv_has ls 3 [(0, .ref v0), (1, .int v1), (2, .int v2)] → W p l e rX0_isAnyLacking s m args below meth c H locs 0 0 Q (F0 m 2 ls []) := by
    intro n
    induction n with
    | zero =>
      intro v0 v1 v2 ls hf
      rw [fX0_isAnyLacking_2] at hf
      cases hf
    | succ n ih =>
      intro v0 v1 v2 ls hf hl
      rw [fX0_isAnyLacking_2] at hf
      refine lv_iload_n hx hb dX0_isAnyLacking_2 rfl (lv_at hl 2 rfl) ?_
      refine lv_iconst (v := 4) hx hb dX0_isAnyLacking_3 (by decide) ?_
      refine lv_icmp_ge (tgt := 24) hx hb dX0_isAnyLacking_4 (by decide) (fun c1 => ?_) (fun c1 => ?_)
      · replace hf := (if_pos c1).symm.trans hf
        refine lv_iconst (v := 0) hx hb dX0_isAnyLacking_24 (by decide) ?_
        exact hret _ _ _ dX0_isAnyLacking_25 hf
      · replace hf := (if_neg c1).symm.trans hf
        refine lv_aload_n hx hb dX0_isAnyLacking_7 rfl (lv_at hl 0 rfl) ?_
        refine lv_iload_n hx hb dX0_isAnyLacking_8 rfl (lv_at hl 2 rfl) ?_
        refine lv_iload_n hx hb dX0_isAnyLacking_9 rfl (lv_at hl 1 rfl) ?_
        obtain ⟨x2, h2, hf⟩ := Option.bind_eq_some_iff.mp hf
        obtain ⟨x3, h3, hf⟩ := Option.bind_eq_some_iff.mp hf
        refine r_callV (As := [.int v2, .int v1]) (rest := []) (st1 := [.int x3]) ⟨hx, hb, hml, hown, hts⟩ (kX0_lackOf l G ρ v0 v2 v1 _ h3) (cu_V hts tw_2_133 tw_2_130 tw_2_131 tw_2_132 tw_1_2 hdX0_lackOf rfl rfl ⟨Nat.le_of_ble_eq_true rfl, Nat.le_of_ble_eq_true rfl⟩) hK hR rfl h2 rfl hl.1 rfl (Nat.le_of_ble_eq_true rfl) dX0_isAnyLacking_10 ⟨Nat.zero_le _, Nat.zero_le _⟩ rfl ?_
        refine lv_if_le (tgt := 18) hx hb dX0_isAnyLacking_13 (by decide) (fun c4 => ?_) (fun c4 => ?_)
        · replace hf := (if_pos c4).symm.trans hf
          refine lv_iinc (v := (v2 + 1)) (lv' := [(2, .int (v2 + 1)), (0, .ref v0), (1, .int v1)]) hx hb dX0_isAnyLacking_18 hl (k := 2) rfl rfl (by decide) rfl (fun ls hl => ?_)
          refine lv_goto (tgt := 2) hx hb dX0_isAnyLacking_21 (by decide) ?_
          exact ih v0 v1 (v2 + 1) ls hf (lv_sub hl [1, 2, 0] rfl)
        · replace hf := (if_neg c4).symm.trans hf
          refine lv_iconst (v := 1) hx hb dX0_isAnyLacking_16 (by decide) ?_
          exact hret _ _ _ dX0_isAnyLacking_17 hf
  unfold fX0_isAnyLacking at hf
  refine lv_iconst (v := 0) hx hb dX0_isAnyLacking_0 (by decide) ?_
  refine lv_istore_n (lv' := [(2, .int 0), (0, .ref v0), (1, .int v1)]) hx hb dX0_isAnyLacking_1 rfl hl (by decide) rfl (fun ls hl => ?_)
  exact L2 FU v0 v1 0 ls hf (lv_sub hl [1, 2, 0] rfl)
/-! BrickedUpAsBlind.House.wholeLight(I)I -/
def fX0_wholeLight_4 (ρ : Rho) : Nat → Nat → Int32 → Int32 → Int32 → Option Int32
  | 0, _, _, _, _ => none
  | n + 1, v0, v1, v2, v3 =>
    (gI ρ 0 v0 5).bind fun x1 =>
    if x1 ≤ v3 then (some v2)
    else ((ckO ρ 0 v0).bind fun x3 =>
    (fX0_shineOf ρ v0 v3 v1).bind fun x4 =>
    fX0_wholeLight_4 ρ n v0 v1 (v2 + x4) (v3 + 1))
def fX0_wholeLight (ρ : Rho) (v0 : Nat) (v1 : Int32) : Option Int32 :=
    fX0_wholeLight_4 ρ FU v0 v1 0 0
abbrev rX0_wholeLight : Room := { frames := 2, cells := 0, slots := 0, locals := 45 }
theorem hdX0_wholeLight : hdP yX0_wholeLight 1 := by unfold hdP; decide +kernel
set_option maxHeartbeats 4000000 in
set_option maxRecDepth 100000 in
theorem kX0_wholeLight (l : Launch) (G : GD) (ρ : Rho) (v0 : Nat) (v1 : Int32) (r : Int32) (hf : fX0_wholeLight ρ v0 v1 = some r) : RM l G yX0_wholeLight (Cond.code yX0_wholeLight cX0_wholeLight 4 (some .int) :: LW) rX0_wholeLight ρ [.ref v0, .int v1] (some (.int r)) := by
  refine RM.ofI (own := RX0) (by decide) rfl (Nat.le_of_ble_eq_true rfl) ?_
  intro p e s m args below meth c H locs Q hx hb hml hown hts hK hR hret ls hl
  replace hl : lv_has ls 4 [(0, .ref v0), (1, .int v1)] := hl
  have L4 : ∀ (n : Nat) (v0 : Nat) (v1 : Int32) (v2 : Int32) (v3 : Int32) (ls : Array Slot), fX0_wholeLight_4 ρ n v0 v1 v2 v3 = some r → lv_has ls 4 [(0, .ref v0), (1, .int v1), (2, .int v2), (3, .int v3)] → W p l e rX0_wholeLight s m args below meth c H locs 0 0 Q (F0 m 4 ls []) := by
    intro n
    induction n with
    | zero =>
      intro v0 v1 v2 v3 ls hf
      rw [fX0_wholeLight_4] at hf
      cases hf
    | succ n ih =>
      intro v0 v1 v2 v3 ls hf hl
      rw [fX0_wholeLight_4] at hf
      refine lv_iload_n hx hb dX0_wholeLight_4 rfl (lv_at hl 3 rfl) ?_
      refine lv_aload_n hx hb dX0_wholeLight_5 rfl (lv_at hl 0 rfl) ?_
      obtain ⟨x1, h1, hf⟩ := Option.bind_eq_some_iff.mp hf
      refine r_gI hx hb hts inX0 hown hK hR rfl 5 (by decide) (hts _ tw_1_48) h1 dX0_wholeLight_6 ?_
      refine lv_icmp_ge (tgt := 27) hx hb dX0_wholeLight_9 (by decide) (fun c2 => ?_) (fun c2 => ?_)
      · replace hf := (if_pos c2).symm.trans hf
        refine lv_iload_n hx hb dX0_wholeLight_27 rfl (lv_at hl 2 rfl) ?_
        exact hret _ _ _ dX0_wholeLight_28 hf
      · replace hf := (if_neg c2).symm.trans hf
        refine lv_iload_n hx hb dX0_wholeLight_12 rfl (lv_at hl 2 rfl) ?_
        refine lv_aload_n hx hb dX0_wholeLight_13 rfl (lv_at hl 0 rfl) ?_
        refine lv_iload_n hx hb dX0_wholeLight_14 rfl (lv_at hl 3 rfl) ?_
        refine lv_iload_n hx hb dX0_wholeLight_15 rfl (lv_at hl 1 rfl) ?_
        obtain ⟨x3, h3, hf⟩ := Option.bind_eq_some_iff.mp hf
        obtain ⟨x4, h4, hf⟩ := Option.bind_eq_some_iff.mp hf
        refine r_callV (As := [.int v3, .int v1]) (rest := [.int v2]) (st1 := [.int x4, .int v2]) ⟨hx, hb, hml, hown, hts⟩ (kX0_shineOf l G ρ v0 v3 v1 _ h4) (cu_V hts tw_2_45 tw_2_109 tw_2_43 tw_2_44 tw_1_2 hdX0_shineOf rfl rfl ⟨Nat.le_of_ble_eq_true rfl, Nat.le_of_ble_eq_true rfl⟩) hK hR rfl h3 rfl hl.1 rfl (Nat.le_of_ble_eq_true rfl) dX0_wholeLight_16 ⟨Nat.zero_le _, Nat.zero_le _⟩ rfl ?_
        refine lv_iadd hx hb dX0_wholeLight_19 ?_
        refine lv_istore_n (lv' := [(2, .int (v2 + x4)), (0, .ref v0), (1, .int v1), (3, .int v3)]) hx hb dX0_wholeLight_20 rfl hl (by decide) rfl (fun ls hl => ?_)
        refine lv_iinc (v := (v3 + 1)) (lv' := [(3, .int (v3 + 1)), (2, .int (v2 + x4)), (0, .ref v0), (1, .int v1)]) hx hb dX0_wholeLight_21 hl (k := 3) rfl rfl (by decide) rfl (fun ls hl => ?_)
        refine lv_goto (tgt := 4) hx hb dX0_wholeLight_24 (by decide) ?_
        exact ih v0 v1 (v2 + x4) (v3 + 1) ls hf (lv_sub hl [2, 3, 1, 0] rfl)
  unfold fX0_wholeLight at hf
  refine lv_iconst (v := 0) hx hb dX0_wholeLight_0 (by decide) ?_
  refine lv_istore_n (lv' := [(2, .int 0), (0, .ref v0), (1, .int v1)]) hx hb dX0_wholeLight_1 rfl hl (by decide) rfl (fun ls hl => ?_)
  refine lv_iconst (v := 0) hx hb dX0_wholeLight_2 (by decide) ?_
  refine lv_istore_n (lv' := [(3, .int 0), (2, .int 0), (0, .ref v0), (1, .int v1)]) hx hb dX0_wholeLight_3 rfl hl (by decide) rfl (fun ls hl => ?_)
  exact L4 FU v0 v1 0 0 ls hf (lv_sub hl [2, 3, 1, 0] rfl)
/-! BrickedUpAsBlind.House.movingAt(I)I -/
def fX0_movingAt_24 (ρ : Rho) (k4 : Nat → Int32 → Int32 → Int32 → Option Int32) (v0 : Nat) (v1 : Int32) (v2 : Int32) (v3 : Int32) : Option Int32 :=
    k4 v0 v1 v2 (v3 + 1)
def fX0_movingAt_4 (ρ : Rho) : Nat → Nat → Int32 → Int32 → Int32 → Option Int32
  | 0, _, _, _, _ => none
  | n + 1, v0, v1, v2, v3 =>
    (gI ρ 0 v0 5).bind fun x1 =>
    if x1 ≤ v3 then (some v2)
    else ((ckO ρ 0 v0).bind fun x3 =>
    (fX0_isMoving ρ v0 v3 v1).bind fun x4 =>
    if x4 = 0 then (fX0_movingAt_24 ρ (fX0_movingAt_4 ρ n) v0 v1 v2 v3)
    else (fX0_movingAt_24 ρ (fX0_movingAt_4 ρ n) v0 v1 (v2 + 1) v3))
def fX0_movingAt (ρ : Rho) (v0 : Nat) (v1 : Int32) : Option Int32 :=
    fX0_movingAt_4 ρ FU v0 v1 0 0
abbrev rX0_movingAt : Room := { frames := 2, cells := 0, slots := 0, locals := 45 }
theorem hdX0_movingAt : hdP yX0_movingAt 1 := by unfold hdP; decide +kernel
set_option maxHeartbeats 4000000 in
set_option maxRecDepth 100000 in
theorem kX0_movingAt (l : Launch) (G : GD) (ρ : Rho) (v0 : Nat) (v1 : Int32) (r : Int32) (hf : fX0_movingAt ρ v0 v1 = some r) : RM l G yX0_movingAt (Cond.code yX0_movingAt cX0_movingAt 4 (some .int) :: LW) rX0_movingAt ρ [.ref v0, .int v1] (some (.int r)) := by
  refine RM.ofI (own := RX0) (by decide) rfl (Nat.le_of_ble_eq_true rfl) ?_
  intro p e s m args below meth c H locs Q hx hb hml hown hts hK hR hret ls hl
  replace hl : lv_has ls 4 [(0, .ref v0), (1, .int v1)] := hl
  have J24 : ∀ (k4 : Nat → Int32 → Int32 → Int32 → Option Int32) (_ : ∀ (v0 : Nat) (v1 : Int32) (v2 : Int32) (v3 : Int32) (ls : Array Slot), k4 v0 v1 v2 v3 = some r → lv_has ls 4 [(0, .ref v0), (1, .int v1), (2, .int v2), (3, .int v3)] → W p l e rX0_movingAt s m args below meth c H locs 0 0 Q (F0 m 4 ls [])), ∀ (v0 : Nat) (v1 : Int32) (v2 : Int32) (v3 : Int32) (ls : Array Slot), fX0_movingAt_24 ρ k4 v0 v1 v2 v3 = some r → lv_has ls 4 [(0, .ref v0), (1, .int v1), (2, .int v2), (3, .int v3)] → W p l e rX0_movingAt s m args below meth c H locs 0 0 Q (F0 m 24 ls []) := by
    intro k4 hk4 v0 v1 v2 v3 ls hf hl
    rw [fX0_movingAt_24] at hf
    refine lv_iinc (v := (v3 + 1)) (lv' := [(3, .int (v3 + 1)), (0, .ref v0), (1, .int v1), (2, .int v2)]) hx hb dX0_movingAt_24 hl (k := 3) rfl rfl (by decide) rfl (fun ls hl => ?_)
    refine lv_goto (tgt := 4) hx hb dX0_movingAt_27 (by decide) ?_
    exact hk4 v0 v1 v2 (v3 + 1) ls hf (lv_sub hl [1, 2, 3, 0] rfl)
  have L4 : ∀ (n : Nat) (v0 : Nat) (v1 : Int32) (v2 : Int32) (v3 : Int32) (ls : Array Slot), fX0_movingAt_4 ρ n v0 v1 v2 v3 = some r → lv_has ls 4 [(0, .ref v0), (1, .int v1), (2, .int v2), (3, .int v3)] → W p l e rX0_movingAt s m args below meth c H locs 0 0 Q (F0 m 4 ls []) := by
    intro n
    induction n with
    | zero =>
      intro v0 v1 v2 v3 ls hf
      rw [fX0_movingAt_4] at hf
      cases hf
    | succ n ih =>
      intro v0 v1 v2 v3 ls hf hl
      rw [fX0_movingAt_4] at hf
      refine lv_iload_n hx hb dX0_movingAt_4 rfl (lv_at hl 3 rfl) ?_
      refine lv_aload_n hx hb dX0_movingAt_5 rfl (lv_at hl 0 rfl) ?_
      obtain ⟨x1, h1, hf⟩ := Option.bind_eq_some_iff.mp hf
      refine r_gI hx hb hts inX0 hown hK hR rfl 5 (by decide) (hts _ tw_1_48) h1 dX0_movingAt_6 ?_
      refine lv_icmp_ge (tgt := 30) hx hb dX0_movingAt_9 (by decide) (fun c2 => ?_) (fun c2 => ?_)
      · replace hf := (if_pos c2).symm.trans hf
        refine lv_iload_n hx hb dX0_movingAt_30 rfl (lv_at hl 2 rfl) ?_
        exact hret _ _ _ dX0_movingAt_31 hf
      · replace hf := (if_neg c2).symm.trans hf
        refine lv_aload_n hx hb dX0_movingAt_12 rfl (lv_at hl 0 rfl) ?_
        refine lv_iload_n hx hb dX0_movingAt_13 rfl (lv_at hl 3 rfl) ?_
        refine lv_iload_n hx hb dX0_movingAt_14 rfl (lv_at hl 1 rfl) ?_
        obtain ⟨x3, h3, hf⟩ := Option.bind_eq_some_iff.mp hf
        obtain ⟨x4, h4, hf⟩ := Option.bind_eq_some_iff.mp hf
        refine r_callV (As := [.int v3, .int v1]) (rest := []) (st1 := [.int x4]) ⟨hx, hb, hml, hown, hts⟩ (kX0_isMoving l G ρ v0 v3 v1 _ h4) (cu_V hts tw_2_12 tw_2_9 tw_2_10 tw_2_11 tw_1_2 hdX0_isMoving rfl rfl ⟨Nat.le_of_ble_eq_true rfl, Nat.le_of_ble_eq_true rfl⟩) hK hR rfl h3 rfl hl.1 rfl (Nat.le_of_ble_eq_true rfl) dX0_movingAt_15 ⟨Nat.zero_le _, Nat.zero_le _⟩ rfl ?_
        refine lv_if_eq (tgt := 24) hx hb dX0_movingAt_18 (by decide) (fun c5 => ?_) (fun c5 => ?_)
        · replace hf := (if_pos c5).symm.trans hf
          exact J24 _ ih v0 v1 v2 v3 ls hf (lv_sub hl [0, 1, 2, 3] rfl)
        · replace hf := (if_neg c5).symm.trans hf
          refine lv_iinc (v := (v2 + 1)) (lv' := [(2, .int (v2 + 1)), (0, .ref v0), (1, .int v1), (3, .int v3)]) hx hb dX0_movingAt_21 hl (k := 2) rfl rfl (by decide) rfl (fun ls hl => ?_)
          exact J24 _ ih v0 v1 (v2 + 1) v3 ls hf (lv_sub hl [1, 2, 0, 3] rfl)
  unfold fX0_movingAt at hf
  refine lv_iconst (v := 0) hx hb dX0_movingAt_0 (by decide) ?_
  refine lv_istore_n (lv' := [(2, .int 0), (0, .ref v0), (1, .int v1)]) hx hb dX0_movingAt_1 rfl hl (by decide) rfl (fun ls hl => ?_)
  refine lv_iconst (v := 0) hx hb dX0_movingAt_2 (by decide) ?_
  refine lv_istore_n (lv' := [(3, .int 0), (2, .int 0), (0, .ref v0), (1, .int v1)]) hx hb dX0_movingAt_3 rfl hl (by decide) rfl (fun ls hl => ?_)
  exact L4 FU v0 v1 0 0 ls hf (lv_sub hl [2, 3, 1, 0] rfl)
/-! BrickedUpAsBlind.House.allNeeds()I -/
def fX0_allNeeds_4 (ρ : Rho) : Nat → Nat → Int32 → Int32 → Option Int32
  | 0, _, _, _ => none
  | n + 1, v0, v1, v2 =>
    if (4 : Int32) ≤ v2 then (some v1)
    else ((gR ρ 0 v0 4).bind fun x2 =>
    (ldI ρ x2 v2).bind fun x3 =>
    fX0_allNeeds_4 ρ n v0 (v1 + x3) (v2 + 1))
def fX0_allNeeds (ρ : Rho) (v0 : Nat) : Option Int32 :=
    fX0_allNeeds_4 ρ FU v0 0 0
abbrev rX0_allNeeds : Room := { frames := 0, cells := 0, slots := 0, locals := 0 }
theorem hdX0_allNeeds : hdP yX0_allNeeds 0 := by unfold hdP; decide +kernel
set_option maxHeartbeats 4000000 in
set_option maxRecDepth 100000 in
theorem kX0_allNeeds (l : Launch) (G : GD) (ρ : Rho) (v0 : Nat) (r : Int32) (hf : fX0_allNeeds ρ v0 = some r) : RM l G yX0_allNeeds (Cond.code yX0_allNeeds cX0_allNeeds 3 (some .int) :: LW) rX0_allNeeds ρ [.ref v0] (some (.int r)) := by
  refine RM.ofI (own := RX0) (by decide) rfl (Nat.le_of_ble_eq_true rfl) ?_
  intro p e s m args below meth c H locs Q hx hb hml hown hts hK hR hret ls hl
  replace hl : lv_has ls 3 [(0, .ref v0)] := hl
  have L4 : ∀ (n : Nat) (v0 : Nat) (v1 : Int32) (v2 : Int32) (ls : Array Slot), fX0_allNeeds_4 ρ n v0 v1 v2 = some r → lv_has ls 3 [(0, .ref v0), (1, .int v1), (2, .int v2)] → W p l e rX0_allNeeds s m args below meth c H locs 0 0 Q (F0 m 4 ls []) := by
    intro n
    induction n with
    | zero =>
      intro v0 v1 v2 ls hf
      rw [fX0_allNeeds_4] at hf
      cases hf
    | succ n ih =>
      intro v0 v1 v2 ls hf hl
      rw [fX0_allNeeds_4] at hf
      refine lv_iload_n hx hb dX0_allNeeds_4 rfl (lv_at hl 2 rfl) ?_
      refine lv_iconst (v := 4) hx hb dX0_allNeeds_5 (by decide) ?_
      refine lv_icmp_ge (tgt := 24) hx hb dX0_allNeeds_6 (by decide) (fun c1 => ?_) (fun c1 => ?_)
      · replace hf := (if_pos c1).symm.trans hf
        refine lv_iload_n hx hb dX0_allNeeds_24 rfl (lv_at hl 1 rfl) ?_
        exact hret _ _ _ dX0_allNeeds_25 hf
      · replace hf := (if_neg c1).symm.trans hf
        refine lv_iload_n hx hb dX0_allNeeds_9 rfl (lv_at hl 1 rfl) ?_
        refine lv_aload_n hx hb dX0_allNeeds_10 rfl (lv_at hl 0 rfl) ?_
        obtain ⟨x2, h2, hf⟩ := Option.bind_eq_some_iff.mp hf
        refine r_gR hx hb hts inX0 hown hK hR rfl 4 (by decide) (hts _ tw_1_47) h2 dX0_allNeeds_11 ?_
        refine lv_iload_n hx hb dX0_allNeeds_14 rfl (lv_at hl 2 rfl) ?_
        obtain ⟨x3, h3, hf⟩ := Option.bind_eq_some_iff.mp hf
        refine r_ldI hx hb hK hR h3 dX0_allNeeds_15 ?_
        refine lv_iadd hx hb dX0_allNeeds_16 ?_
        refine lv_istore_n (lv' := [(1, .int (v1 + x3)), (0, .ref v0), (2, .int v2)]) hx hb dX0_allNeeds_17 rfl hl (by decide) rfl (fun ls hl => ?_)
        refine lv_iinc (v := (v2 + 1)) (lv' := [(2, .int (v2 + 1)), (1, .int (v1 + x3)), (0, .ref v0)]) hx hb dX0_allNeeds_18 hl (k := 2) rfl rfl (by decide) rfl (fun ls hl => ?_)
        refine lv_goto (tgt := 4) hx hb dX0_allNeeds_21 (by decide) ?_
        exact ih v0 (v1 + x3) (v2 + 1) ls hf (lv_sub hl [2, 1, 0] rfl)
  unfold fX0_allNeeds at hf
  refine lv_iconst (v := 0) hx hb dX0_allNeeds_0 (by decide) ?_
  refine lv_istore_n (lv' := [(1, .int 0), (0, .ref v0)]) hx hb dX0_allNeeds_1 rfl hl (by decide) rfl (fun ls hl => ?_)
  refine lv_iconst (v := 0) hx hb dX0_allNeeds_2 (by decide) ?_
  refine lv_istore_n (lv' := [(2, .int 0), (1, .int 0), (0, .ref v0)]) hx hb dX0_allNeeds_3 rfl hl (by decide) rfl (fun ls hl => ?_)
  exact L4 FU v0 0 0 ls hf (lv_sub hl [2, 1, 0] rfl)
