/-! BrickedUpAsBlind.isShelf(I)Z -/
def fX9_isShelf (ρ : Rho) (v0 : Int32) : Option Int32 :=
    if v0 < 0 then (nb 0)
    else (if (8 : Int32) ≤ v0 then (nb 0)
    else (nb 1))
abbrev rX9_isShelf : Room := { frames := 0, cells := 0, slots := 0, locals := 0 }
theorem hdX9_isShelf : hdP yX9_isShelf 1 := by unfold hdP; decide +kernel
set_option maxHeartbeats 4000000 in
set_option maxRecDepth 100000 in
theorem kX9_isShelf (l : Launch) (G : GD) (ρ : Rho) (v0 : Int32) (r : Int32) (hf : fX9_isShelf ρ v0 = some r) : RM l G yX9_isShelf (Cond.code yX9_isShelf cX9_isShelf 1 (some .boolean) :: LW) rX9_isShelf ρ [.int v0] (some (.int r)) := by
  refine RM.ofZ (own := RX9) (by decide) rfl (Nat.le_of_ble_eq_true rfl) ?_
  intro p e s m args below meth c H locs Q hx hb hml hown hts hK hR hret ls hl
  replace hl : lv_has ls 1 [(0, .int v0)] := hl
  unfold fX9_isShelf at hf
  refine lv_iload_n hx hb dX9_isShelf_0 rfl (lv_at hl 0 rfl) ?_
  refine lv_if_lt (tgt := 14) hx hb dX9_isShelf_1 (by decide) (fun c1 => ?_) (fun c1 => ?_)
  · replace hf := (if_pos c1).symm.trans hf
    refine lv_iconst (v := 0) hx hb dX9_isShelf_14 (by decide) ?_
    exact hret _ _ _ dX9_isShelf_15 hf
  · replace hf := (if_neg c1).symm.trans hf
    refine lv_iload_n hx hb dX9_isShelf_4 rfl (lv_at hl 0 rfl) ?_
    refine lv_bipush (v := 8) hx hb dX9_isShelf_5 (by decide) ?_
    refine lv_icmp_ge (tgt := 14) hx hb dX9_isShelf_7 (by decide) (fun c2 => ?_) (fun c2 => ?_)
    · replace hf := (if_pos c2).symm.trans hf
      refine lv_iconst (v := 0) hx hb dX9_isShelf_14 (by decide) ?_
      exact hret _ _ _ dX9_isShelf_15 hf
    · replace hf := (if_neg c2).symm.trans hf
      refine lv_iconst (v := 1) hx hb dX9_isShelf_10 (by decide) ?_
      refine lv_goto (tgt := 15) hx hb dX9_isShelf_11 (by decide) ?_
      exact hret _ _ _ dX9_isShelf_15 hf
/-! BrickedUpAsBlind.house(I)I -/
def fX9_house (ρ : Rho) (v0 : Nat) (v1 : Int32) : Option (Int32 × Rho) :=
    (fX9_isShelf ρ v1).bind fun x1 =>
    if x1 = 0 then (some ((-1), ρ))
    else ((gR ρ 2 v0 3).bind fun x3 =>
    (ldR ρ x3 v1).bind fun x4 =>
    (ckO ρ 1 x4).bind fun x5 =>
    (fX6_refusalAsRow ρ x4).bind fun x6 =>
    if (0 : Int32) ≤ x6 then ((gI ρ 1 x4 3).bind fun x8 =>
    if x8 = 0 then ((fX7_faultyByte ρ x4).bind fun x10 =>
    if x10 < 0 then ((gR ρ 2 v0 2).bind fun x12 =>
    (gR ρ 2 v0 0).bind fun x13 =>
    (ckO ρ 0 x12).bind fun x14 =>
    (fX0_become ρ x12 x13).bind fun x15 =>
    (gR x15 2 v0 2).bind fun x16 =>
    (fX7_carryOut x15 x4 x16).bind fun x17 =>
    if x17.1 < 0 then (some (x17.1, x17.2))
    else ((gR x17.2 2 v0 0).bind fun x19 =>
    (gR x17.2 2 v0 2).bind fun x20 =>
    (ckO x17.2 0 x19).bind fun x21 =>
    (fX0_become x17.2 x19 x20).bind fun x22 =>
    some (x17.1, x22)))
    else (some (((-1000) - x10), ρ)))
    else (some ((-12), ρ)))
    else (some (x6, ρ)))
abbrev rX9_house : Room := { frames := 6, cells := 0, slots := 0, locals := 155 }
theorem hdX9_house : hdP yX9_house 1 := by unfold hdP; decide +kernel
set_option maxHeartbeats 4000000 in
set_option maxRecDepth 100000 in
theorem kX9_house (l : Launch) (G : GD) (ρ : Rho) (v0 : Nat) (v1 : Int32) (r0 : Int32) (ρ1 : Rho) (hf : fX9_house ρ v0 v1 = some (r0, ρ1)) : WM l G yX9_house (Cond.code yX9_house cX9_house 6 (some .int) :: LW) rX9_house ρ [.ref v0, .int v1] (some (.int r0)) ρ1 := by
  obtain ⟨r, hr⟩ : ∃ r, r = (r0, ρ1) := ⟨_, rfl⟩
  rw [← hr] at hf
  refine WM.ofI (own := RX9) (r := r) hr (by decide) rfl (Nat.le_of_ble_eq_true rfl) ?_
  intro p e s m args below meth c H locs Q hx hb hml hown hts hK hR hS hret ls hl
  obtain ⟨ρ0, hρ0⟩ : ∃ z, z = ρ := ⟨_, rfl⟩
  rw [← hρ0] at hret
  replace hS : WS ρ0 s.heap ρ H locs := hρ0 ▸ hS
  replace hl : lv_has ls 6 [(0, .ref v0), (1, .int v1)] := hl
  unfold fX9_house at hf
  refine lv_iload_n hx hb dX9_house_0 rfl (lv_at hl 1 rfl) ?_
  obtain ⟨x1, h1, hf⟩ := Option.bind_eq_some_iff.mp hf
  refine r_callS (As := [.int v1]) (rest := []) (st1 := [.int x1]) ⟨hx, hb, hml, hown, hts⟩ (kX9_isShelf l G ρ v1 _ h1) (cu_S hts tw_1_154 tw_1_152 tw_1_153 tw_1_1 hdX9_isShelf rfl rfl ⟨Nat.le_of_ble_eq_true rfl, Nat.le_of_ble_eq_true rfl⟩) hK hR rfl hl.1 rfl (Nat.le_of_ble_eq_true rfl) dX9_house_1 ⟨Nat.zero_le _, Nat.zero_le _⟩ rfl ?_
  refine lv_if_ne (tgt := 9) hx hb dX9_house_4 (by decide) (fun c2 => ?_) (fun c2 => ?_)
  · replace hf := (if_neg c2).symm.trans hf
    refine lv_aload_n hx hb dX9_house_9 rfl (lv_at hl 0 rfl) ?_
    obtain ⟨x3, h3, hf⟩ := Option.bind_eq_some_iff.mp hf
    refine r_gR hx hb hts inX9 hown hK hR rfl 3 (by decide) (hts _ tw_1_135) h3 dX9_house_10 ?_
    refine lv_iload_n hx hb dX9_house_13 rfl (lv_at hl 1 rfl) ?_
    obtain ⟨x4, h4, hf⟩ := Option.bind_eq_some_iff.mp hf
    refine r_ldR hx hb hK hR h4 dX9_house_14 ?_
    refine lv_astore_n (lv' := [(2, .ref x4), (0, .ref v0), (1, .int v1)]) hx hb dX9_house_15 rfl hl (by decide) rfl (fun ls hl => ?_)
    refine lv_aload_n hx hb dX9_house_16 rfl (lv_at hl 0 rfl) ?_
    obtain ⟨x5, h5, hf⟩ := Option.bind_eq_some_iff.mp hf
    obtain ⟨x6, h6, hf⟩ := Option.bind_eq_some_iff.mp hf
    refine r_callV (As := []) (rest := []) (st1 := [.int x6]) ⟨hx, hb, hml, hown, hts⟩ (kX6_refusalAsRow l G ρ x4 _ h6) (cu_V hts tw_1_158 tw_1_155 tw_1_156 tw_1_157 tw_1_3 hdX6_refusalAsRow rfl rfl ⟨Nat.le_of_ble_eq_true rfl, Nat.le_of_ble_eq_true rfl⟩) hK hR rfl h5 rfl hl.1 rfl (Nat.le_of_ble_eq_true rfl) dX9_house_17 ⟨Nat.zero_le _, Nat.zero_le _⟩ rfl ?_
    refine lv_istore_n (lv' := [(3, .int x6), (2, .ref x4), (0, .ref v0), (1, .int v1)]) hx hb dX9_house_20 rfl hl (by decide) rfl (fun ls hl => ?_)
    refine lv_iload_n hx hb dX9_house_21 rfl (lv_at hl 0 rfl) ?_
    refine lv_if_ge (tgt := 27) hx hb dX9_house_22 (by decide) (fun c7 => ?_) (fun c7 => ?_)
    · replace hf := (if_pos c7).symm.trans hf
      refine lv_aload_n hx hb dX9_house_27 rfl (lv_at hl 1 rfl) ?_
      obtain ⟨x8, h8, hf⟩ := Option.bind_eq_some_iff.mp hf
      refine r_gI hx hb hts inX6 hown hK hR rfl 3 (by decide) (hts _ tw_1_108) h8 dX9_house_28 ?_
      refine lv_if_eq (tgt := 37) hx hb dX9_house_31 (by decide) (fun c9 => ?_) (fun c9 => ?_)
      · replace hf := (if_pos c9).symm.trans hf
        refine lv_aload_n hx hb dX9_house_37 rfl (lv_at hl 1 rfl) ?_
        obtain ⟨x10, h10, hf⟩ := Option.bind_eq_some_iff.mp hf
        refine r_callS (As := [.ref x4]) (rest := []) (st1 := [.int x10]) ⟨hx, hb, hml, hown, hts⟩ (kX7_faultyByte l G ρ x4 _ h10) (cu_S hts tw_1_161 tw_1_159 tw_1_160 tw_1_5 hdX7_faultyByte rfl rfl ⟨Nat.le_of_ble_eq_true rfl, Nat.le_of_ble_eq_true rfl⟩) hK hR rfl hl.1 rfl (Nat.le_of_ble_eq_true rfl) dX9_house_38 ⟨Nat.zero_le _, Nat.zero_le _⟩ rfl ?_
        refine lv_istore (lv' := [(4, .int x10), (3, .int x6), (2, .ref x4), (0, .ref v0), (1, .int v1)]) hx hb dX9_house_41 hl (by decide) rfl (fun ls hl => ?_)
        refine lv_iload hx hb dX9_house_43 (lv_at hl 0 rfl) ?_
        refine lv_if_lt (tgt := 55) hx hb dX9_house_45 (by decide) (fun c11 => ?_) (fun c11 => ?_)
        · replace hf := (if_pos c11).symm.trans hf
          refine lv_aload_n hx hb dX9_house_55 rfl (lv_at hl 3 rfl) ?_
          obtain ⟨x12, h12, hf⟩ := Option.bind_eq_some_iff.mp hf
          refine r_gR hx hb hts inX9 hown hK hR rfl 2 (by decide) (hts _ tw_1_134) h12 dX9_house_56 ?_
          refine lv_aload_n hx hb dX9_house_59 rfl (lv_at hl 3 rfl) ?_
          obtain ⟨x13, h13, hf⟩ := Option.bind_eq_some_iff.mp hf
          refine r_gR hx hb hts inX9 hown hK hR rfl 0 (by decide) (hts _ tw_1_132) h13 dX9_house_60 ?_
          obtain ⟨x14, h14, hf⟩ := Option.bind_eq_some_iff.mp hf
          obtain ⟨x15, h15, hf⟩ := Option.bind_eq_some_iff.mp hf
          refine w_callV (As := [.ref x13]) (rest := []) (st1 := []) ⟨hx, hb, hml, hown, hts⟩ (kX0_become l G ρ x12 x13 _ h15) (cu_V hts tw_1_178 tw_1_175 tw_1_176 tw_1_177 tw_1_2 hdX0_become rfl rfl ⟨Nat.le_of_ble_eq_true rfl, Nat.le_of_ble_eq_true rfl⟩) hK hR hS rfl h14 rfl hl.1 rfl (Nat.le_of_ble_eq_true rfl) dX9_house_63 ⟨Nat.zero_le _, Nat.zero_le _⟩ rfl (fun H locs hR hS => ?_)
          refine lv_aload_n hx hb dX9_house_66 rfl (lv_at hl 2 rfl) ?_
          refine lv_aload_n hx hb dX9_house_67 rfl (lv_at hl 3 rfl) ?_
          obtain ⟨x16, h16, hf⟩ := Option.bind_eq_some_iff.mp hf
          refine r_gR hx hb hts inX9 hown hK hR rfl 2 (by decide) (hts _ tw_1_134) h16 dX9_house_68 ?_
          obtain ⟨x17, h17, hf⟩ := Option.bind_eq_some_iff.mp hf
          refine w_callS (As := [.ref x4, .ref x16]) (rest := []) (st1 := [.int x17.1]) ⟨hx, hb, hml, hown, hts⟩ (kX7_carryOut l G x15 x4 x16 _ _ h17) (cu_S hts tw_1_184 tw_1_182 tw_1_183 tw_1_5 hdX7_carryOut rfl rfl ⟨Nat.le_of_ble_eq_true rfl, Nat.le_of_ble_eq_true rfl⟩) hK hR hS rfl hl.1 rfl (Nat.le_of_ble_eq_true rfl) dX9_house_71 ⟨Nat.zero_le _, Nat.zero_le _⟩ rfl (fun H locs hR hS => ?_)
          refine lv_istore (lv' := [(5, .int x17.1), (4, .int x10), (3, .int x6), (2, .ref x4), (0, .ref v0), (1, .int v1)]) hx hb dX9_house_74 hl (by decide) rfl (fun ls hl => ?_)
          refine lv_iload hx hb dX9_house_76 (lv_at hl 0 rfl) ?_
          refine lv_if_lt (tgt := 92) hx hb dX9_house_78 (by decide) (fun c18 => ?_) (fun c18 => ?_)
          · replace hf := (if_pos c18).symm.trans hf
            refine lv_iload hx hb dX9_house_92 (lv_at hl 0 rfl) ?_
            exact hret _ _ _ _ _ _ dX9_house_94 hR hS hf
          · replace hf := (if_neg c18).symm.trans hf
            refine lv_aload_n hx hb dX9_house_81 rfl (lv_at hl 4 rfl) ?_
            obtain ⟨x19, h19, hf⟩ := Option.bind_eq_some_iff.mp hf
            refine r_gR hx hb hts inX9 hown hK hR rfl 0 (by decide) (hts _ tw_1_132) h19 dX9_house_82 ?_
            refine lv_aload_n hx hb dX9_house_85 rfl (lv_at hl 4 rfl) ?_
            obtain ⟨x20, h20, hf⟩ := Option.bind_eq_some_iff.mp hf
            refine r_gR hx hb hts inX9 hown hK hR rfl 2 (by decide) (hts _ tw_1_134) h20 dX9_house_86 ?_
            obtain ⟨x21, h21, hf⟩ := Option.bind_eq_some_iff.mp hf
            obtain ⟨x22, h22, hf⟩ := Option.bind_eq_some_iff.mp hf
            refine w_callV (As := [.ref x20]) (rest := []) (st1 := []) ⟨hx, hb, hml, hown, hts⟩ (kX0_become l G x17.2 x19 x20 _ h22) (cu_V hts tw_1_178 tw_1_175 tw_1_176 tw_1_177 tw_1_2 hdX0_become rfl rfl ⟨Nat.le_of_ble_eq_true rfl, Nat.le_of_ble_eq_true rfl⟩) hK hR hS rfl h21 rfl hl.1 rfl (Nat.le_of_ble_eq_true rfl) dX9_house_89 ⟨Nat.zero_le _, Nat.zero_le _⟩ rfl (fun H locs hR hS => ?_)
            refine lv_iload hx hb dX9_house_92 (lv_at hl 0 rfl) ?_
            exact hret _ _ _ _ _ _ dX9_house_94 hR hS hf
        · replace hf := (if_neg c11).symm.trans hf
          refine lv_sipush (v := (-1000)) hx hb dX9_house_48 (by decide) ?_
          refine lv_iload hx hb dX9_house_51 (lv_at hl 0 rfl) ?_
          refine lv_isub hx hb dX9_house_53 ?_
          exact hret _ _ _ _ _ _ dX9_house_54 hR hS hf
      · replace hf := (if_neg c9).symm.trans hf
        refine lv_bipush (v := (-12)) hx hb dX9_house_34 (by decide) ?_
        exact hret _ _ _ _ _ _ dX9_house_36 hR hS hf
    · replace hf := (if_neg c7).symm.trans hf
      refine lv_iload_n hx hb dX9_house_25 rfl (lv_at hl 0 rfl) ?_
      exact hret _ _ _ _ _ _ dX9_house_26 hR hS hf
  · replace hf := (if_pos c2).symm.trans hf
    refine lv_iconst (v := (-1)) hx hb dX9_house_7 (by decide) ?_
    exact hret _ _ _ _ _ _ dX9_house_8 hR hS hf
/-! BrickedUpAsBlind.window(II)I -/
def fX9_window (ρ : Rho) (v0 : Nat) (v1 : Int32) (v2 : Int32) : Option Int32 :=
    (gR ρ 2 v0 0).bind fun x1 =>
    (ckO ρ 0 x1).bind fun x2 =>
    (fX0_isWindow ρ x1 v1).bind fun x3 =>
    if x3 = 0 then (some (-1))
    else (if v2 = (0 : Int32) then ((gR ρ 2 v0 0).bind fun x6 =>
    (gR ρ 0 x6 0).bind fun x7 =>
    (ldI ρ x7 v1).bind fun x8 =>
    some x8)
    else (if v2 = (1 : Int32) then ((gR ρ 2 v0 0).bind fun x10 =>
    (gR ρ 0 x10 1).bind fun x11 =>
    (ldI ρ x11 v1).bind fun x12 =>
    some x12)
    else (if v2 = (2 : Int32) then ((gR ρ 2 v0 0).bind fun x14 =>
    (gR ρ 0 x14 2).bind fun x15 =>
    (ldI ρ x15 v1).bind fun x16 =>
    some x16)
    else (if v2 = (3 : Int32) then ((gR ρ 2 v0 0).bind fun x18 =>
    (gR ρ 0 x18 3).bind fun x19 =>
    (ldI ρ x19 v1).bind fun x20 =>
    some x20)
    else (if v2 = (4 : Int32) then ((gR ρ 2 v0 0).bind fun x22 =>
    (ckO ρ 0 x22).bind fun x23 =>
    (fX0_isStopped ρ x22 v1).bind fun x24 =>
    if x24 = 0 then (some 0)
    else (some 1))
    else (if v2 = (5 : Int32) then ((gR ρ 2 v0 0).bind fun x27 =>
    (gR ρ 0 x27 0).bind fun x28 =>
    (ldI ρ x28 v1).bind fun x29 =>
    (gR ρ 2 v0 0).bind fun x30 =>
    (gR ρ 0 x30 1).bind fun x31 =>
    (ldI ρ x31 v1).bind fun x32 =>
    (fX1_due ρ x29 x32).bind fun x33 =>
    some x33)
    else (some (-1))))))))
abbrev rX9_window : Room := { frames := 1, cells := 0, slots := 0, locals := 23 }
theorem hdX9_window : hdP yX9_window 2 := by unfold hdP; decide +kernel
set_option maxHeartbeats 4000000 in
set_option maxRecDepth 100000 in
theorem kX9_window (l : Launch) (G : GD) (ρ : Rho) (v0 : Nat) (v1 : Int32) (v2 : Int32) (r : Int32) (hf : fX9_window ρ v0 v1 v2 = some r) : RM l G yX9_window (Cond.code yX9_window cX9_window 3 (some .int) :: LW) rX9_window ρ [.ref v0, .int v1, .int v2] (some (.int r)) := by
  refine RM.ofI (own := RX9) (by decide) rfl (Nat.le_of_ble_eq_true rfl) ?_
  intro p e s m args below meth c H locs Q hx hb hml hown hts hK hR hret ls hl
  replace hl : lv_has ls 3 [(0, .ref v0), (1, .int v1), (2, .int v2)] := hl
  unfold fX9_window at hf
  refine lv_aload_n hx hb dX9_window_0 rfl (lv_at hl 0 rfl) ?_
  obtain ⟨x1, h1, hf⟩ := Option.bind_eq_some_iff.mp hf
  refine r_gR hx hb hts inX9 hown hK hR rfl 0 (by decide) (hts _ tw_1_132) h1 dX9_window_1 ?_
  refine lv_iload_n hx hb dX9_window_4 rfl (lv_at hl 1 rfl) ?_
  obtain ⟨x2, h2, hf⟩ := Option.bind_eq_some_iff.mp hf
  obtain ⟨x3, h3, hf⟩ := Option.bind_eq_some_iff.mp hf
  refine r_callV (As := [.int v1]) (rest := []) (st1 := [.int x3]) ⟨hx, hb, hml, hown, hts⟩ (kX0_isWindow l G ρ x1 v1 _ h3) (cu_V hts tw_1_221 tw_2_34 tw_1_219 tw_1_220 tw_1_2 hdX0_isWindow rfl rfl ⟨Nat.le_of_ble_eq_true rfl, Nat.le_of_ble_eq_true rfl⟩) hK hR rfl h2 rfl hl.1 rfl (Nat.le_of_ble_eq_true rfl) dX9_window_5 ⟨Nat.zero_le _, Nat.zero_le _⟩ rfl ?_
  refine lv_if_ne (tgt := 13) hx hb dX9_window_8 (by decide) (fun c4 => ?_) (fun c4 => ?_)
  · replace hf := (if_neg c4).symm.trans hf
    refine lv_iload_n hx hb dX9_window_13 rfl (lv_at hl 2 rfl) ?_
    by_cases c5 : v2 = (0 : Int32)
    · replace hf := (if_pos c5).symm.trans hf
      refine lv_tableIn (tgt := 52) hx hb dX9_window_14 (by rw [c5]; decide) (by rw [c5]; decide) (by rw [c5]; rfl) (by decide) ?_
      refine lv_aload_n hx hb dX9_window_52 rfl (lv_at hl 0 rfl) ?_
      obtain ⟨x6, h6, hf⟩ := Option.bind_eq_some_iff.mp hf
      refine r_gR hx hb hts inX9 hown hK hR rfl 0 (by decide) (hts _ tw_1_132) h6 dX9_window_53 ?_
      obtain ⟨x7, h7, hf⟩ := Option.bind_eq_some_iff.mp hf
      refine r_gR hx hb hts inX0 hown hK hR rfl 0 (by decide) (hts _ tw_1_37) h7 dX9_window_56 ?_
      refine lv_iload_n hx hb dX9_window_59 rfl (lv_at hl 1 rfl) ?_
      obtain ⟨x8, h8, hf⟩ := Option.bind_eq_some_iff.mp hf
      refine r_ldI hx hb hK hR h8 dX9_window_60 ?_
      exact hret _ _ _ dX9_window_61 hf
    · replace hf := (if_neg c5).symm.trans hf
      by_cases c9 : v2 = (1 : Int32)
      · replace hf := (if_pos c9).symm.trans hf
        refine lv_tableIn (tgt := 62) hx hb dX9_window_14 (by rw [c9]; decide) (by rw [c9]; decide) (by rw [c9]; rfl) (by decide) ?_
        refine lv_aload_n hx hb dX9_window_62 rfl (lv_at hl 0 rfl) ?_
        obtain ⟨x10, h10, hf⟩ := Option.bind_eq_some_iff.mp hf
        refine r_gR hx hb hts inX9 hown hK hR rfl 0 (by decide) (hts _ tw_1_132) h10 dX9_window_63 ?_
        obtain ⟨x11, h11, hf⟩ := Option.bind_eq_some_iff.mp hf
        refine r_gR hx hb hts inX0 hown hK hR rfl 1 (by decide) (hts _ tw_1_40) h11 dX9_window_66 ?_
        refine lv_iload_n hx hb dX9_window_69 rfl (lv_at hl 1 rfl) ?_
        obtain ⟨x12, h12, hf⟩ := Option.bind_eq_some_iff.mp hf
        refine r_ldI hx hb hK hR h12 dX9_window_70 ?_
        exact hret _ _ _ dX9_window_71 hf
      · replace hf := (if_neg c9).symm.trans hf
        by_cases c13 : v2 = (2 : Int32)
        · replace hf := (if_pos c13).symm.trans hf
          refine lv_tableIn (tgt := 72) hx hb dX9_window_14 (by rw [c13]; decide) (by rw [c13]; decide) (by rw [c13]; rfl) (by decide) ?_
          refine lv_aload_n hx hb dX9_window_72 rfl (lv_at hl 0 rfl) ?_
          obtain ⟨x14, h14, hf⟩ := Option.bind_eq_some_iff.mp hf
          refine r_gR hx hb hts inX9 hown hK hR rfl 0 (by decide) (hts _ tw_1_132) h14 dX9_window_73 ?_
          obtain ⟨x15, h15, hf⟩ := Option.bind_eq_some_iff.mp hf
          refine r_gR hx hb hts inX0 hown hK hR rfl 2 (by decide) (hts _ tw_1_44) h15 dX9_window_76 ?_
          refine lv_iload_n hx hb dX9_window_79 rfl (lv_at hl 1 rfl) ?_
          obtain ⟨x16, h16, hf⟩ := Option.bind_eq_some_iff.mp hf
          refine r_ldI hx hb hK hR h16 dX9_window_80 ?_
          exact hret _ _ _ dX9_window_81 hf
        · replace hf := (if_neg c13).symm.trans hf
          by_cases c17 : v2 = (3 : Int32)
          · replace hf := (if_pos c17).symm.trans hf
            refine lv_tableIn (tgt := 82) hx hb dX9_window_14 (by rw [c17]; decide) (by rw [c17]; decide) (by rw [c17]; rfl) (by decide) ?_
            refine lv_aload_n hx hb dX9_window_82 rfl (lv_at hl 0 rfl) ?_
            obtain ⟨x18, h18, hf⟩ := Option.bind_eq_some_iff.mp hf
            refine r_gR hx hb hts inX9 hown hK hR rfl 0 (by decide) (hts _ tw_1_132) h18 dX9_window_83 ?_
            obtain ⟨x19, h19, hf⟩ := Option.bind_eq_some_iff.mp hf
            refine r_gR hx hb hts inX0 hown hK hR rfl 3 (by decide) (hts _ tw_1_46) h19 dX9_window_86 ?_
            refine lv_iload_n hx hb dX9_window_89 rfl (lv_at hl 1 rfl) ?_
            obtain ⟨x20, h20, hf⟩ := Option.bind_eq_some_iff.mp hf
            refine r_ldI hx hb hK hR h20 dX9_window_90 ?_
            exact hret _ _ _ dX9_window_91 hf
          · replace hf := (if_neg c17).symm.trans hf
            by_cases c21 : v2 = (4 : Int32)
            · replace hf := (if_pos c21).symm.trans hf
              refine lv_tableIn (tgt := 92) hx hb dX9_window_14 (by rw [c21]; decide) (by rw [c21]; decide) (by rw [c21]; rfl) (by decide) ?_
              refine lv_aload_n hx hb dX9_window_92 rfl (lv_at hl 0 rfl) ?_
              obtain ⟨x22, h22, hf⟩ := Option.bind_eq_some_iff.mp hf
              refine r_gR hx hb hts inX9 hown hK hR rfl 0 (by decide) (hts _ tw_1_132) h22 dX9_window_93 ?_
              refine lv_iload_n hx hb dX9_window_96 rfl (lv_at hl 1 rfl) ?_
              obtain ⟨x23, h23, hf⟩ := Option.bind_eq_some_iff.mp hf
              obtain ⟨x24, h24, hf⟩ := Option.bind_eq_some_iff.mp hf
              refine r_callV (As := [.int v1]) (rest := []) (st1 := [.int x24]) ⟨hx, hb, hml, hown, hts⟩ (kX0_isStopped l G ρ x22 v1 _ h24) (cu_V hts tw_1_225 tw_2_35 tw_1_223 tw_1_224 tw_1_2 hdX0_isStopped rfl rfl ⟨Nat.le_of_ble_eq_true rfl, Nat.le_of_ble_eq_true rfl⟩) hK hR rfl h23 rfl hl.1 rfl (Nat.le_of_ble_eq_true rfl) dX9_window_97 ⟨Nat.zero_le _, Nat.zero_le _⟩ rfl ?_
              refine lv_if_eq (tgt := 107) hx hb dX9_window_100 (by decide) (fun c25 => ?_) (fun c25 => ?_)
              · replace hf := (if_pos c25).symm.trans hf
                refine lv_iconst (v := 0) hx hb dX9_window_107 (by decide) ?_
                exact hret _ _ _ dX9_window_108 hf
              · replace hf := (if_neg c25).symm.trans hf
                refine lv_iconst (v := 1) hx hb dX9_window_103 (by decide) ?_
                refine lv_goto (tgt := 108) hx hb dX9_window_104 (by decide) ?_
                exact hret _ _ _ dX9_window_108 hf
            · replace hf := (if_neg c21).symm.trans hf
              by_cases c26 : v2 = (5 : Int32)
              · replace hf := (if_pos c26).symm.trans hf
                refine lv_tableIn (tgt := 109) hx hb dX9_window_14 (by rw [c26]; decide) (by rw [c26]; decide) (by rw [c26]; rfl) (by decide) ?_
                refine lv_aload_n hx hb dX9_window_109 rfl (lv_at hl 0 rfl) ?_
                obtain ⟨x27, h27, hf⟩ := Option.bind_eq_some_iff.mp hf
                refine r_gR hx hb hts inX9 hown hK hR rfl 0 (by decide) (hts _ tw_1_132) h27 dX9_window_110 ?_
                obtain ⟨x28, h28, hf⟩ := Option.bind_eq_some_iff.mp hf
                refine r_gR hx hb hts inX0 hown hK hR rfl 0 (by decide) (hts _ tw_1_37) h28 dX9_window_113 ?_
                refine lv_iload_n hx hb dX9_window_116 rfl (lv_at hl 1 rfl) ?_
                obtain ⟨x29, h29, hf⟩ := Option.bind_eq_some_iff.mp hf
                refine r_ldI hx hb hK hR h29 dX9_window_117 ?_
                refine lv_aload_n hx hb dX9_window_118 rfl (lv_at hl 0 rfl) ?_
                obtain ⟨x30, h30, hf⟩ := Option.bind_eq_some_iff.mp hf
                refine r_gR hx hb hts inX9 hown hK hR rfl 0 (by decide) (hts _ tw_1_132) h30 dX9_window_119 ?_
                obtain ⟨x31, h31, hf⟩ := Option.bind_eq_some_iff.mp hf
                refine r_gR hx hb hts inX0 hown hK hR rfl 1 (by decide) (hts _ tw_1_40) h31 dX9_window_122 ?_
                refine lv_iload_n hx hb dX9_window_125 rfl (lv_at hl 1 rfl) ?_
                obtain ⟨x32, h32, hf⟩ := Option.bind_eq_some_iff.mp hf
                refine r_ldI hx hb hK hR h32 dX9_window_126 ?_
                obtain ⟨x33, h33, hf⟩ := Option.bind_eq_some_iff.mp hf
                refine r_callS (As := [.int x29, .int x32]) (rest := []) (st1 := [.int x33]) ⟨hx, hb, hml, hown, hts⟩ (kX1_due l G ρ x29 x32 _ h33) (cu_S hts tw_2_8 tw_2_36 tw_2_7 tw_1_7 hdX1_due rfl rfl ⟨Nat.le_of_ble_eq_true rfl, Nat.le_of_ble_eq_true rfl⟩) hK hR rfl hl.1 rfl (Nat.le_of_ble_eq_true rfl) dX9_window_127 ⟨Nat.zero_le _, Nat.zero_le _⟩ rfl ?_
                exact hret _ _ _ dX9_window_130 hf
              · replace hf := (if_neg c26).symm.trans hf
                refine r_tabD (tgt := 131) hx hb dX9_window_14 rfl (fun j hj => ?_) (by decide) ?_
                · replace hj : j < 6 := hj
                  rcases (show j = 0 ∨ j = 1 ∨ j = 2 ∨ j = 3 ∨ j = 4 ∨ j = 5 by omega) with rfl | rfl | rfl | rfl | rfl | rfl
                  · exact Or.inr (lv_neT c5 rfl)
                  · exact Or.inr (lv_neT c9 rfl)
                  · exact Or.inr (lv_neT c13 rfl)
                  · exact Or.inr (lv_neT c17 rfl)
                  · exact Or.inr (lv_neT c21 rfl)
                  · exact Or.inr (lv_neT c26 rfl)
                refine lv_iconst (v := (-1)) hx hb dX9_window_131 (by decide) ?_
                exact hret _ _ _ dX9_window_132 hf
  · replace hf := (if_pos c4).symm.trans hf
    refine lv_iconst (v := (-1)) hx hb dX9_window_11 (by decide) ?_
    exact hret _ _ _ dX9_window_12 hf
/-! BrickedUpAsBlind.at(III)I -/
def fX9_at (ρ : Rho) (v0 : Nat) (v1 : Int32) (v2 : Int32) (v3 : Int32) : Option Int32 :=
    (gR ρ 2 v0 0).bind fun x1 =>
    (ckO ρ 0 x1).bind fun x2 =>
    (fX0_isWindow ρ x1 v1).bind fun x3 =>
    if x3 = 0 then (some (-1))
    else ((fX0_isHour ρ v2).bind fun x5 =>
    if x5 = 0 then (some (-1))
    else (if v3 = (0 : Int32) then ((gR ρ 2 v0 0).bind fun x8 =>
    (ckO ρ 0 x8).bind fun x9 =>
    (fX0_shineOf ρ x8 v1 v2).bind fun x10 =>
    some x10)
    else (if v3 = (1 : Int32) then ((gR ρ 2 v0 0).bind fun x12 =>
    (ckO ρ 0 x12).bind fun x13 =>
    (fX0_isMoving ρ x12 v1 v2).bind fun x14 =>
    if x14 = 0 then (some 0)
    else (some 1))
    else (if v3 = (2 : Int32) then ((gR ρ 2 v0 0).bind fun x17 =>
    (ckO ρ 0 x17).bind fun x18 =>
    (fX0_seemingOf ρ x17 v1 v2).bind fun x19 =>
    some x19)
    else (some (-1))))))
abbrev rX9_at : Room := { frames := 4, cells := 0, slots := 0, locals := 132 }
theorem hdX9_at : hdP yX9_at 3 := by unfold hdP; decide +kernel
set_option maxHeartbeats 4000000 in
set_option maxRecDepth 100000 in
theorem kX9_at (l : Launch) (G : GD) (ρ : Rho) (v0 : Nat) (v1 : Int32) (v2 : Int32) (v3 : Int32) (r : Int32) (hf : fX9_at ρ v0 v1 v2 v3 = some r) : RM l G yX9_at (Cond.code yX9_at cX9_at 4 (some .int) :: LW) rX9_at ρ [.ref v0, .int v1, .int v2, .int v3] (some (.int r)) := by
  refine RM.ofI (own := RX9) (by decide) rfl (Nat.le_of_ble_eq_true rfl) ?_
  intro p e s m args below meth c H locs Q hx hb hml hown hts hK hR hret ls hl
  replace hl : lv_has ls 4 [(0, .ref v0), (1, .int v1), (2, .int v2), (3, .int v3)] := hl
  unfold fX9_at at hf
  refine lv_aload_n hx hb dX9_at_0 rfl (lv_at hl 0 rfl) ?_
  obtain ⟨x1, h1, hf⟩ := Option.bind_eq_some_iff.mp hf
  refine r_gR hx hb hts inX9 hown hK hR rfl 0 (by decide) (hts _ tw_1_132) h1 dX9_at_1 ?_
  refine lv_iload_n hx hb dX9_at_4 rfl (lv_at hl 1 rfl) ?_
  obtain ⟨x2, h2, hf⟩ := Option.bind_eq_some_iff.mp hf
  obtain ⟨x3, h3, hf⟩ := Option.bind_eq_some_iff.mp hf
  refine r_callV (As := [.int v1]) (rest := []) (st1 := [.int x3]) ⟨hx, hb, hml, hown, hts⟩ (kX0_isWindow l G ρ x1 v1 _ h3) (cu_V hts tw_1_221 tw_2_34 tw_1_219 tw_1_220 tw_1_2 hdX0_isWindow rfl rfl ⟨Nat.le_of_ble_eq_true rfl, Nat.le_of_ble_eq_true rfl⟩) hK hR rfl h2 rfl hl.1 rfl (Nat.le_of_ble_eq_true rfl) dX9_at_5 ⟨Nat.zero_le _, Nat.zero_le _⟩ rfl ?_
  refine lv_if_eq (tgt := 18) hx hb dX9_at_8 (by decide) (fun c4 => ?_) (fun c4 => ?_)
  · replace hf := (if_pos c4).symm.trans hf
    refine lv_iconst (v := (-1)) hx hb dX9_at_18 (by decide) ?_
    exact hret _ _ _ dX9_at_19 hf
  · replace hf := (if_neg c4).symm.trans hf
    refine lv_iload_n hx hb dX9_at_11 rfl (lv_at hl 2 rfl) ?_
    obtain ⟨x5, h5, hf⟩ := Option.bind_eq_some_iff.mp hf
    refine r_callS (As := [.int v2]) (rest := []) (st1 := [.int x5]) ⟨hx, hb, hml, hown, hts⟩ (kX0_isHour l G ρ v2 _ h5) (cu_S hts tw_1_209 tw_2_41 tw_1_208 tw_1_2 hdX0_isHour rfl rfl ⟨Nat.le_of_ble_eq_true rfl, Nat.le_of_ble_eq_true rfl⟩) hK hR rfl hl.1 rfl (Nat.le_of_ble_eq_true rfl) dX9_at_12 ⟨Nat.zero_le _, Nat.zero_le _⟩ rfl ?_
    refine lv_if_ne (tgt := 20) hx hb dX9_at_15 (by decide) (fun c6 => ?_) (fun c6 => ?_)
    · replace hf := (if_neg c6).symm.trans hf
      refine lv_iload_n hx hb dX9_at_20 rfl (lv_at hl 3 rfl) ?_
      by_cases c7 : v3 = (0 : Int32)
      · replace hf := (if_pos c7).symm.trans hf
        refine lv_tableIn (tgt := 48) hx hb dX9_at_21 (by rw [c7]; decide) (by rw [c7]; decide) (by rw [c7]; rfl) (by decide) ?_
        refine lv_aload_n hx hb dX9_at_48 rfl (lv_at hl 0 rfl) ?_
        obtain ⟨x8, h8, hf⟩ := Option.bind_eq_some_iff.mp hf
        refine r_gR hx hb hts inX9 hown hK hR rfl 0 (by decide) (hts _ tw_1_132) h8 dX9_at_49 ?_
        refine lv_iload_n hx hb dX9_at_52 rfl (lv_at hl 1 rfl) ?_
        refine lv_iload_n hx hb dX9_at_53 rfl (lv_at hl 2 rfl) ?_
        obtain ⟨x9, h9, hf⟩ := Option.bind_eq_some_iff.mp hf
        obtain ⟨x10, h10, hf⟩ := Option.bind_eq_some_iff.mp hf
        refine r_callV (As := [.int v1, .int v2]) (rest := []) (st1 := [.int x10]) ⟨hx, hb, hml, hown, hts⟩ (kX0_shineOf l G ρ x8 v1 v2 _ h10) (cu_V hts tw_2_45 tw_2_42 tw_2_43 tw_2_44 tw_1_2 hdX0_shineOf rfl rfl ⟨Nat.le_of_ble_eq_true rfl, Nat.le_of_ble_eq_true rfl⟩) hK hR rfl h9 rfl hl.1 rfl (Nat.le_of_ble_eq_true rfl) dX9_at_54 ⟨Nat.zero_le _, Nat.zero_le _⟩ rfl ?_
        exact hret _ _ _ dX9_at_57 hf
      · replace hf := (if_neg c7).symm.trans hf
        by_cases c11 : v3 = (1 : Int32)
        · replace hf := (if_pos c11).symm.trans hf
          refine lv_tableIn (tgt := 58) hx hb dX9_at_21 (by rw [c11]; decide) (by rw [c11]; decide) (by rw [c11]; rfl) (by decide) ?_
          refine lv_aload_n hx hb dX9_at_58 rfl (lv_at hl 0 rfl) ?_
          obtain ⟨x12, h12, hf⟩ := Option.bind_eq_some_iff.mp hf
          refine r_gR hx hb hts inX9 hown hK hR rfl 0 (by decide) (hts _ tw_1_132) h12 dX9_at_59 ?_
          refine lv_iload_n hx hb dX9_at_62 rfl (lv_at hl 1 rfl) ?_
          refine lv_iload_n hx hb dX9_at_63 rfl (lv_at hl 2 rfl) ?_
          obtain ⟨x13, h13, hf⟩ := Option.bind_eq_some_iff.mp hf
          obtain ⟨x14, h14, hf⟩ := Option.bind_eq_some_iff.mp hf
          refine r_callV (As := [.int v1, .int v2]) (rest := []) (st1 := [.int x14]) ⟨hx, hb, hml, hown, hts⟩ (kX0_isMoving l G ρ x12 v1 v2 _ h14) (cu_V hts tw_2_12 tw_2_49 tw_2_10 tw_2_11 tw_1_2 hdX0_isMoving rfl rfl ⟨Nat.le_of_ble_eq_true rfl, Nat.le_of_ble_eq_true rfl⟩) hK hR rfl h13 rfl hl.1 rfl (Nat.le_of_ble_eq_true rfl) dX9_at_64 ⟨Nat.zero_le _, Nat.zero_le _⟩ rfl ?_
          refine lv_if_eq (tgt := 74) hx hb dX9_at_67 (by decide) (fun c15 => ?_) (fun c15 => ?_)
          · replace hf := (if_pos c15).symm.trans hf
            refine lv_iconst (v := 0) hx hb dX9_at_74 (by decide) ?_
            exact hret _ _ _ dX9_at_75 hf
          · replace hf := (if_neg c15).symm.trans hf
            refine lv_iconst (v := 1) hx hb dX9_at_70 (by decide) ?_
            refine lv_goto (tgt := 75) hx hb dX9_at_71 (by decide) ?_
            exact hret _ _ _ dX9_at_75 hf
        · replace hf := (if_neg c11).symm.trans hf
          by_cases c16 : v3 = (2 : Int32)
          · replace hf := (if_pos c16).symm.trans hf
            refine lv_tableIn (tgt := 76) hx hb dX9_at_21 (by rw [c16]; decide) (by rw [c16]; decide) (by rw [c16]; rfl) (by decide) ?_
            refine lv_aload_n hx hb dX9_at_76 rfl (lv_at hl 0 rfl) ?_
            obtain ⟨x17, h17, hf⟩ := Option.bind_eq_some_iff.mp hf
            refine r_gR hx hb hts inX9 hown hK hR rfl 0 (by decide) (hts _ tw_1_132) h17 dX9_at_77 ?_
            refine lv_iload_n hx hb dX9_at_80 rfl (lv_at hl 1 rfl) ?_
            refine lv_iload_n hx hb dX9_at_81 rfl (lv_at hl 2 rfl) ?_
            obtain ⟨x18, h18, hf⟩ := Option.bind_eq_some_iff.mp hf
            obtain ⟨x19, h19, hf⟩ := Option.bind_eq_some_iff.mp hf
            refine r_callV (As := [.int v1, .int v2]) (rest := []) (st1 := [.int x19]) ⟨hx, hb, hml, hown, hts⟩ (kX0_seemingOf l G ρ x17 v1 v2 _ h19) (cu_V hts tw_2_53 tw_2_50 tw_2_51 tw_2_52 tw_1_2 hdX0_seemingOf rfl rfl ⟨Nat.le_of_ble_eq_true rfl, Nat.le_of_ble_eq_true rfl⟩) hK hR rfl h18 rfl hl.1 rfl (Nat.le_of_ble_eq_true rfl) dX9_at_82 ⟨Nat.zero_le _, Nat.zero_le _⟩ rfl ?_
            exact hret _ _ _ dX9_at_85 hf
          · replace hf := (if_neg c16).symm.trans hf
            refine r_tabD (tgt := 86) hx hb dX9_at_21 rfl (fun j hj => ?_) (by decide) ?_
            · replace hj : j < 3 := hj
              rcases (show j = 0 ∨ j = 1 ∨ j = 2 by omega) with rfl | rfl | rfl
              · exact Or.inr (lv_neT c7 rfl)
              · exact Or.inr (lv_neT c11 rfl)
              · exact Or.inr (lv_neT c16 rfl)
            refine lv_iconst (v := (-1)) hx hb dX9_at_86 (by decide) ?_
            exact hret _ _ _ dX9_at_87 hf
    · replace hf := (if_pos c6).symm.trans hf
      refine lv_iconst (v := (-1)) hx hb dX9_at_18 (by decide) ?_
      exact hret _ _ _ dX9_at_19 hf
/-! BrickedUpAsBlind.builds(III)I -/
def fX9_builds (ρ : Rho) (v0 : Nat) (v1 : Int32) (v2 : Int32) (v3 : Int32) : Option (Int32 × Rho) :=
    (fX9_isShelf ρ v1).bind fun x1 =>
    if x1 = 0 then (some ((-1), ρ))
    else ((fX0_isRoom ρ v2).bind fun x3 =>
    if x3 = 0 then (some ((-1), ρ))
    else ((fX0_isHour ρ v3).bind fun x5 =>
    if x5 = 0 then (some ((-1), ρ))
    else ((gR ρ 2 v0 3).bind fun x7 =>
    (ldR ρ x7 v1).bind fun x8 =>
    (ckO ρ 1 x8).bind fun x9 =>
    (fX6_refusalAsKind ρ x8).bind fun x10 =>
    if (0 : Int32) ≤ x10 then ((gR ρ 2 v0 0).bind fun x12 =>
    (gI ρ 1 x8 1).bind fun x13 =>
    (gI ρ 1 x8 2).bind fun x14 =>
    (ckO ρ 0 x12).bind fun x15 =>
    (fX0_addWindow ρ x12 x13 x14 v2 v3).bind fun x16 =>
    some (x16.1, x16.2))
    else (some (x10, ρ)))))
abbrev rX9_builds : Room := { frames := 3, cells := 0, slots := 0, locals := 66 }
theorem hdX9_builds : hdP yX9_builds 3 := by unfold hdP; decide +kernel
set_option maxHeartbeats 4000000 in
set_option maxRecDepth 100000 in
theorem kX9_builds (l : Launch) (G : GD) (ρ : Rho) (v0 : Nat) (v1 : Int32) (v2 : Int32) (v3 : Int32) (r0 : Int32) (ρ1 : Rho) (hf : fX9_builds ρ v0 v1 v2 v3 = some (r0, ρ1)) : WM l G yX9_builds (Cond.code yX9_builds cX9_builds 6 (some .int) :: LW) rX9_builds ρ [.ref v0, .int v1, .int v2, .int v3] (some (.int r0)) ρ1 := by
  obtain ⟨r, hr⟩ : ∃ r, r = (r0, ρ1) := ⟨_, rfl⟩
  rw [← hr] at hf
  refine WM.ofI (own := RX9) (r := r) hr (by decide) rfl (Nat.le_of_ble_eq_true rfl) ?_
  intro p e s m args below meth c H locs Q hx hb hml hown hts hK hR hS hret ls hl
  obtain ⟨ρ0, hρ0⟩ : ∃ z, z = ρ := ⟨_, rfl⟩
  rw [← hρ0] at hret
  replace hS : WS ρ0 s.heap ρ H locs := hρ0 ▸ hS
  replace hl : lv_has ls 6 [(0, .ref v0), (1, .int v1), (2, .int v2), (3, .int v3)] := hl
  unfold fX9_builds at hf
  refine lv_iload_n hx hb dX9_builds_0 rfl (lv_at hl 1 rfl) ?_
  obtain ⟨x1, h1, hf⟩ := Option.bind_eq_some_iff.mp hf
  refine r_callS (As := [.int v1]) (rest := []) (st1 := [.int x1]) ⟨hx, hb, hml, hown, hts⟩ (kX9_isShelf l G ρ v1 _ h1) (cu_S hts tw_1_154 tw_1_152 tw_1_153 tw_1_1 hdX9_isShelf rfl rfl ⟨Nat.le_of_ble_eq_true rfl, Nat.le_of_ble_eq_true rfl⟩) hK hR rfl hl.1 rfl (Nat.le_of_ble_eq_true rfl) dX9_builds_1 ⟨Nat.zero_le _, Nat.zero_le _⟩ rfl ?_
  refine lv_if_eq (tgt := 21) hx hb dX9_builds_4 (by decide) (fun c2 => ?_) (fun c2 => ?_)
  · replace hf := (if_pos c2).symm.trans hf
    refine lv_iconst (v := (-1)) hx hb dX9_builds_21 (by decide) ?_
    exact hret _ _ _ _ _ _ dX9_builds_22 hR hS hf
  · replace hf := (if_neg c2).symm.trans hf
    refine lv_iload_n hx hb dX9_builds_7 rfl (lv_at hl 2 rfl) ?_
    obtain ⟨x3, h3, hf⟩ := Option.bind_eq_some_iff.mp hf
    refine r_callS (As := [.int v2]) (rest := []) (st1 := [.int x3]) ⟨hx, hb, hml, hown, hts⟩ (kX0_isRoom l G ρ v2 _ h3) (cu_S hts tw_1_203 tw_2_69 tw_1_202 tw_1_2 hdX0_isRoom rfl rfl ⟨Nat.le_of_ble_eq_true rfl, Nat.le_of_ble_eq_true rfl⟩) hK hR rfl hl.1 rfl (Nat.le_of_ble_eq_true rfl) dX9_builds_8 ⟨Nat.zero_le _, Nat.zero_le _⟩ rfl ?_
    refine lv_if_eq (tgt := 21) hx hb dX9_builds_11 (by decide) (fun c4 => ?_) (fun c4 => ?_)
    · replace hf := (if_pos c4).symm.trans hf
      refine lv_iconst (v := (-1)) hx hb dX9_builds_21 (by decide) ?_
      exact hret _ _ _ _ _ _ dX9_builds_22 hR hS hf
    · replace hf := (if_neg c4).symm.trans hf
      refine lv_iload_n hx hb dX9_builds_14 rfl (lv_at hl 3 rfl) ?_
      obtain ⟨x5, h5, hf⟩ := Option.bind_eq_some_iff.mp hf
      refine r_callS (As := [.int v3]) (rest := []) (st1 := [.int x5]) ⟨hx, hb, hml, hown, hts⟩ (kX0_isHour l G ρ v3 _ h5) (cu_S hts tw_1_209 tw_2_41 tw_1_208 tw_1_2 hdX0_isHour rfl rfl ⟨Nat.le_of_ble_eq_true rfl, Nat.le_of_ble_eq_true rfl⟩) hK hR rfl hl.1 rfl (Nat.le_of_ble_eq_true rfl) dX9_builds_15 ⟨Nat.zero_le _, Nat.zero_le _⟩ rfl ?_
      refine lv_if_ne (tgt := 23) hx hb dX9_builds_18 (by decide) (fun c6 => ?_) (fun c6 => ?_)
      · replace hf := (if_neg c6).symm.trans hf
        refine lv_aload_n hx hb dX9_builds_23 rfl (lv_at hl 0 rfl) ?_
        obtain ⟨x7, h7, hf⟩ := Option.bind_eq_some_iff.mp hf
        refine r_gR hx hb hts inX9 hown hK hR rfl 3 (by decide) (hts _ tw_1_135) h7 dX9_builds_24 ?_
        refine lv_iload_n hx hb dX9_builds_27 rfl (lv_at hl 1 rfl) ?_
        obtain ⟨x8, h8, hf⟩ := Option.bind_eq_some_iff.mp hf
        refine r_ldR hx hb hK hR h8 dX9_builds_28 ?_
        refine lv_astore (lv' := [(4, .ref x8), (0, .ref v0), (1, .int v1), (2, .int v2), (3, .int v3)]) hx hb dX9_builds_29 hl (by decide) rfl (fun ls hl => ?_)
        refine lv_aload hx hb dX9_builds_31 (lv_at hl 0 rfl) ?_
        obtain ⟨x9, h9, hf⟩ := Option.bind_eq_some_iff.mp hf
        obtain ⟨x10, h10, hf⟩ := Option.bind_eq_some_iff.mp hf
        refine r_callV (As := []) (rest := []) (st1 := [.int x10]) ⟨hx, hb, hml, hown, hts⟩ (kX6_refusalAsKind l G ρ x8 _ h10) (cu_V hts tw_2_73 tw_2_70 tw_2_71 tw_2_72 tw_1_3 hdX6_refusalAsKind rfl rfl ⟨Nat.le_of_ble_eq_true rfl, Nat.le_of_ble_eq_true rfl⟩) hK hR rfl h9 rfl hl.1 rfl (Nat.le_of_ble_eq_true rfl) dX9_builds_33 ⟨Nat.zero_le _, Nat.zero_le _⟩ rfl ?_
        refine lv_istore (lv' := [(5, .int x10), (4, .ref x8), (0, .ref v0), (1, .int v1), (2, .int v2), (3, .int v3)]) hx hb dX9_builds_36 hl (by decide) rfl (fun ls hl => ?_)
        refine lv_iload hx hb dX9_builds_38 (lv_at hl 0 rfl) ?_
        refine lv_if_ge (tgt := 46) hx hb dX9_builds_40 (by decide) (fun c11 => ?_) (fun c11 => ?_)
        · replace hf := (if_pos c11).symm.trans hf
          refine lv_aload_n hx hb dX9_builds_46 rfl (lv_at hl 2 rfl) ?_
          obtain ⟨x12, h12, hf⟩ := Option.bind_eq_some_iff.mp hf
          refine r_gR hx hb hts inX9 hown hK hR rfl 0 (by decide) (hts _ tw_1_132) h12 dX9_builds_47 ?_
          refine lv_aload hx hb dX9_builds_50 (lv_at hl 1 rfl) ?_
          obtain ⟨x13, h13, hf⟩ := Option.bind_eq_some_iff.mp hf
          refine r_gI hx hb hts inX6 hown hK hR rfl 1 (by decide) (hts _ tw_1_104) h13 dX9_builds_52 ?_
          refine lv_aload hx hb dX9_builds_55 (lv_at hl 1 rfl) ?_
          obtain ⟨x14, h14, hf⟩ := Option.bind_eq_some_iff.mp hf
          refine r_gI hx hb hts inX6 hown hK hR rfl 2 (by decide) (hts _ tw_1_106) h14 dX9_builds_57 ?_
          refine lv_iload_n hx hb dX9_builds_60 rfl (lv_at hl 4 rfl) ?_
          refine lv_iload_n hx hb dX9_builds_61 rfl (lv_at hl 5 rfl) ?_
          obtain ⟨x15, h15, hf⟩ := Option.bind_eq_some_iff.mp hf
          obtain ⟨x16, h16, hf⟩ := Option.bind_eq_some_iff.mp hf
          refine w_callV (As := [.int x13, .int x14, .int v2, .int v3]) (rest := []) (st1 := [.int x16.1]) ⟨hx, hb, hml, hown, hts⟩ (kX0_addWindow l G ρ x12 x13 x14 v2 v3 _ _ h16) (cu_V hts tw_1_194 tw_2_74 tw_1_192 tw_1_193 tw_1_2 hdX0_addWindow rfl rfl ⟨Nat.le_of_ble_eq_true rfl, Nat.le_of_ble_eq_true rfl⟩) hK hR hS rfl h15 rfl hl.1 rfl (Nat.le_of_ble_eq_true rfl) dX9_builds_62 ⟨Nat.zero_le _, Nat.zero_le _⟩ rfl (fun H locs hR hS => ?_)
          exact hret _ _ _ _ _ _ dX9_builds_65 hR hS hf
        · replace hf := (if_neg c11).symm.trans hf
          refine lv_iload hx hb dX9_builds_43 (lv_at hl 0 rfl) ?_
          exact hret _ _ _ _ _ _ dX9_builds_45 hR hS hf
      · replace hf := (if_pos c6).symm.trans hf
        refine lv_iconst (v := (-1)) hx hb dX9_builds_21 (by decide) ?_
        exact hret _ _ _ _ _ _ dX9_builds_22 hR hS hf
/-! BrickedUpAsBlind.stops(I)I -/
def fX9_stops (ρ : Rho) (v0 : Nat) (v1 : Int32) : Option (Int32 × Rho) :=
    (gR ρ 2 v0 0).bind fun x1 =>
    (ckO ρ 0 x1).bind fun x2 =>
    (fX0_turnStopped ρ x1 v1).bind fun x3 =>
    some (x3.1, x3.2)
abbrev rX9_stops : Room := { frames := 2, cells := 0, slots := 0, locals := 42 }
theorem hdX9_stops : hdP yX9_stops 1 := by unfold hdP; decide +kernel
set_option maxHeartbeats 4000000 in
set_option maxRecDepth 100000 in
theorem kX9_stops (l : Launch) (G : GD) (ρ : Rho) (v0 : Nat) (v1 : Int32) (r0 : Int32) (ρ1 : Rho) (hf : fX9_stops ρ v0 v1 = some (r0, ρ1)) : WM l G yX9_stops (Cond.code yX9_stops cX9_stops 2 (some .int) :: LW) rX9_stops ρ [.ref v0, .int v1] (some (.int r0)) ρ1 := by
  obtain ⟨r, hr⟩ : ∃ r, r = (r0, ρ1) := ⟨_, rfl⟩
  rw [← hr] at hf
  refine WM.ofI (own := RX9) (r := r) hr (by decide) rfl (Nat.le_of_ble_eq_true rfl) ?_
  intro p e s m args below meth c H locs Q hx hb hml hown hts hK hR hS hret ls hl
  obtain ⟨ρ0, hρ0⟩ : ∃ z, z = ρ := ⟨_, rfl⟩
  rw [← hρ0] at hret
  replace hS : WS ρ0 s.heap ρ H locs := hρ0 ▸ hS
  replace hl : lv_has ls 2 [(0, .ref v0), (1, .int v1)] := hl
  unfold fX9_stops at hf
  refine lv_aload_n hx hb dX9_stops_0 rfl (lv_at hl 0 rfl) ?_
  obtain ⟨x1, h1, hf⟩ := Option.bind_eq_some_iff.mp hf
  refine r_gR hx hb hts inX9 hown hK hR rfl 0 (by decide) (hts _ tw_1_132) h1 dX9_stops_1 ?_
  refine lv_iload_n hx hb dX9_stops_4 rfl (lv_at hl 1 rfl) ?_
  obtain ⟨x2, h2, hf⟩ := Option.bind_eq_some_iff.mp hf
  obtain ⟨x3, h3, hf⟩ := Option.bind_eq_some_iff.mp hf
  refine w_callV (As := [.int v1]) (rest := []) (st1 := [.int x3.1]) ⟨hx, hb, hml, hown, hts⟩ (kX0_turnStopped l G ρ x1 v1 _ _ h3) (cu_V hts tw_1_217 tw_2_79 tw_1_215 tw_1_216 tw_1_2 hdX0_turnStopped rfl rfl ⟨Nat.le_of_ble_eq_true rfl, Nat.le_of_ble_eq_true rfl⟩) hK hR hS rfl h2 rfl hl.1 rfl (Nat.le_of_ble_eq_true rfl) dX9_stops_5 ⟨Nat.zero_le _, Nat.zero_le _⟩ rfl (fun H locs hR hS => ?_)
  exact hret _ _ _ _ _ _ dX9_stops_8 hR hS hf
/-! BrickedUpAsBlind.needs(II)I -/
def fX9_needs (ρ : Rho) (v0 : Nat) (v1 : Int32) (v2 : Int32) : Option (Int32 × Rho) :=
    (gR ρ 2 v0 0).bind fun x1 =>
    (ckO ρ 0 x1).bind fun x2 =>
    (fX0_changeNeed ρ x1 v1 v2).bind fun x3 =>
    some (x3.1, x3.2)
abbrev rX9_needs : Room := { frames := 3, cells := 0, slots := 0, locals := 65 }
theorem hdX9_needs : hdP yX9_needs 2 := by unfold hdP; decide +kernel
set_option maxHeartbeats 4000000 in
set_option maxRecDepth 100000 in
theorem kX9_needs (l : Launch) (G : GD) (ρ : Rho) (v0 : Nat) (v1 : Int32) (v2 : Int32) (r0 : Int32) (ρ1 : Rho) (hf : fX9_needs ρ v0 v1 v2 = some (r0, ρ1)) : WM l G yX9_needs (Cond.code yX9_needs cX9_needs 3 (some .int) :: LW) rX9_needs ρ [.ref v0, .int v1, .int v2] (some (.int r0)) ρ1 := by
  obtain ⟨r, hr⟩ : ∃ r, r = (r0, ρ1) := ⟨_, rfl⟩
  rw [← hr] at hf
  refine WM.ofI (own := RX9) (r := r) hr (by decide) rfl (Nat.le_of_ble_eq_true rfl) ?_
  intro p e s m args below meth c H locs Q hx hb hml hown hts hK hR hS hret ls hl
  obtain ⟨ρ0, hρ0⟩ : ∃ z, z = ρ := ⟨_, rfl⟩
  rw [← hρ0] at hret
  replace hS : WS ρ0 s.heap ρ H locs := hρ0 ▸ hS
  replace hl : lv_has ls 3 [(0, .ref v0), (1, .int v1), (2, .int v2)] := hl
  unfold fX9_needs at hf
  refine lv_aload_n hx hb dX9_needs_0 rfl (lv_at hl 0 rfl) ?_
  obtain ⟨x1, h1, hf⟩ := Option.bind_eq_some_iff.mp hf
  refine r_gR hx hb hts inX9 hown hK hR rfl 0 (by decide) (hts _ tw_1_132) h1 dX9_needs_1 ?_
  refine lv_iload_n hx hb dX9_needs_4 rfl (lv_at hl 1 rfl) ?_
  refine lv_iload_n hx hb dX9_needs_5 rfl (lv_at hl 2 rfl) ?_
  obtain ⟨x2, h2, hf⟩ := Option.bind_eq_some_iff.mp hf
  obtain ⟨x3, h3, hf⟩ := Option.bind_eq_some_iff.mp hf
  refine w_callV (As := [.int v1, .int v2]) (rest := []) (st1 := [.int x3.1]) ⟨hx, hb, hml, hown, hts⟩ (kX0_changeNeed l G ρ x1 v1 v2 _ _ h3) (cu_V hts tw_1_213 tw_2_84 tw_1_211 tw_1_212 tw_1_2 hdX0_changeNeed rfl rfl ⟨Nat.le_of_ble_eq_true rfl, Nat.le_of_ble_eq_true rfl⟩) hK hR hS rfl h2 rfl hl.1 rfl (Nat.le_of_ble_eq_true rfl) dX9_needs_6 ⟨Nat.zero_le _, Nat.zero_le _⟩ rfl (fun H locs hR hS => ?_)
  exact hret _ _ _ _ _ _ dX9_needs_9 hR hS hf
/-! BrickedUpAsBlind.set(II)I -/
def fX9_set (ρ : Rho) (v0 : Nat) (v1 : Int32) (v2 : Int32) : Option (Int32 × Rho) :=
    if v1 = (0 : Int32) then ((gR ρ 2 v0 0).bind fun x2 =>
    (ckO ρ 0 x2).bind fun x3 =>
    (fX0_changeHour ρ x2 v2).bind fun x4 =>
    some (x4.1, x4.2))
    else (if v1 = (1 : Int32) then ((gR ρ 2 v0 0).bind fun x6 =>
    (ckO ρ 0 x6).bind fun x7 =>
    (fX0_changeRate ρ x6 v2).bind fun x8 =>
    some (x8.1, x8.2))
    else (some ((-1), ρ)))
abbrev rX9_set : Room := { frames := 3, cells := 0, slots := 0, locals := 64 }
theorem hdX9_set : hdP yX9_set 2 := by unfold hdP; decide +kernel
set_option maxHeartbeats 4000000 in
set_option maxRecDepth 100000 in
theorem kX9_set (l : Launch) (G : GD) (ρ : Rho) (v0 : Nat) (v1 : Int32) (v2 : Int32) (r0 : Int32) (ρ1 : Rho) (hf : fX9_set ρ v0 v1 v2 = some (r0, ρ1)) : WM l G yX9_set (Cond.code yX9_set cX9_set 3 (some .int) :: LW) rX9_set ρ [.ref v0, .int v1, .int v2] (some (.int r0)) ρ1 := by
  obtain ⟨r, hr⟩ : ∃ r, r = (r0, ρ1) := ⟨_, rfl⟩
  rw [← hr] at hf
  refine WM.ofI (own := RX9) (r := r) hr (by decide) rfl (Nat.le_of_ble_eq_true rfl) ?_
  intro p e s m args below meth c H locs Q hx hb hml hown hts hK hR hS hret ls hl
  obtain ⟨ρ0, hρ0⟩ : ∃ z, z = ρ := ⟨_, rfl⟩
  rw [← hρ0] at hret
  replace hS : WS ρ0 s.heap ρ H locs := hρ0 ▸ hS
  replace hl : lv_has ls 3 [(0, .ref v0), (1, .int v1), (2, .int v2)] := hl
  unfold fX9_set at hf
  refine lv_iload_n hx hb dX9_set_0 rfl (lv_at hl 1 rfl) ?_
  by_cases c1 : v1 = (0 : Int32)
  · replace hf := (if_pos c1).symm.trans hf
    refine lv_lookup (tgt := 28) hx hb dX9_set_1 (by decide) (by rw [c1] <;> rfl) (by decide) ?_
    refine lv_aload_n hx hb dX9_set_28 rfl (lv_at hl 0 rfl) ?_
    obtain ⟨x2, h2, hf⟩ := Option.bind_eq_some_iff.mp hf
    refine r_gR hx hb hts inX9 hown hK hR rfl 0 (by decide) (hts _ tw_1_132) h2 dX9_set_29 ?_
    refine lv_iload_n hx hb dX9_set_32 rfl (lv_at hl 2 rfl) ?_
    obtain ⟨x3, h3, hf⟩ := Option.bind_eq_some_iff.mp hf
    obtain ⟨x4, h4, hf⟩ := Option.bind_eq_some_iff.mp hf
    refine w_callV (As := [.int v2]) (rest := []) (st1 := [.int x4.1]) ⟨hx, hb, hml, hown, hts⟩ (kX0_changeHour l G ρ x2 v2 _ _ h4) (cu_V hts tw_1_229 tw_2_89 tw_1_227 tw_1_228 tw_1_2 hdX0_changeHour rfl rfl ⟨Nat.le_of_ble_eq_true rfl, Nat.le_of_ble_eq_true rfl⟩) hK hR hS rfl h3 rfl hl.1 rfl (Nat.le_of_ble_eq_true rfl) dX9_set_33 ⟨Nat.zero_le _, Nat.zero_le _⟩ rfl (fun H locs hR hS => ?_)
    exact hret _ _ _ _ _ _ dX9_set_36 hR hS hf
  · replace hf := (if_neg c1).symm.trans hf
    by_cases c5 : v1 = (1 : Int32)
    · replace hf := (if_pos c5).symm.trans hf
      refine lv_lookup (tgt := 37) hx hb dX9_set_1 (by decide) (by rw [c5] <;> rfl) (by decide) ?_
      refine lv_aload_n hx hb dX9_set_37 rfl (lv_at hl 0 rfl) ?_
      obtain ⟨x6, h6, hf⟩ := Option.bind_eq_some_iff.mp hf
      refine r_gR hx hb hts inX9 hown hK hR rfl 0 (by decide) (hts _ tw_1_132) h6 dX9_set_38 ?_
      refine lv_iload_n hx hb dX9_set_41 rfl (lv_at hl 2 rfl) ?_
      obtain ⟨x7, h7, hf⟩ := Option.bind_eq_some_iff.mp hf
      obtain ⟨x8, h8, hf⟩ := Option.bind_eq_some_iff.mp hf
      refine w_callV (As := [.int v2]) (rest := []) (st1 := [.int x8.1]) ⟨hx, hb, hml, hown, hts⟩ (kX0_changeRate l G ρ x6 v2 _ _ h8) (cu_V hts tw_1_233 tw_2_90 tw_1_231 tw_1_232 tw_1_2 hdX0_changeRate rfl rfl ⟨Nat.le_of_ble_eq_true rfl, Nat.le_of_ble_eq_true rfl⟩) hK hR hS rfl h7 rfl hl.1 rfl (Nat.le_of_ble_eq_true rfl) dX9_set_42 ⟨Nat.zero_le _, Nat.zero_le _⟩ rfl (fun H locs hR hS => ?_)
      exact hret _ _ _ _ _ _ dX9_set_45 hR hS hf
    · replace hf := (if_neg c5).symm.trans hf
      refine r_lookD (tgt := 46) hx hb dX9_set_1 (by decide) ((lv_osw c1 rfl).trans ((lv_osw c5 rfl).trans rfl)) (by decide) ?_
      refine lv_iconst (v := (-1)) hx hb dX9_set_46 (by decide) ?_
      exact hret _ _ _ _ _ _ dX9_set_47 hR hS hf
/-! BrickedUpAsBlind.years(I)I -/
def fX9_years (ρ : Rho) (v0 : Nat) (v1 : Int32) : Option (Int32 × Rho) :=
    (gR ρ 2 v0 0).bind fun x1 =>
    (ckO ρ 0 x1).bind fun x2 =>
    (fX0_passYears ρ x1 v1).bind fun x3 =>
    some (x3.1, x3.2)
abbrev rX9_years : Room := { frames := 4, cells := 0, slots := 0, locals := 110 }
theorem hdX9_years : hdP yX9_years 1 := by unfold hdP; decide +kernel
set_option maxHeartbeats 4000000 in
set_option maxRecDepth 100000 in
theorem kX9_years (l : Launch) (G : GD) (ρ : Rho) (v0 : Nat) (v1 : Int32) (r0 : Int32) (ρ1 : Rho) (hf : fX9_years ρ v0 v1 = some (r0, ρ1)) : WM l G yX9_years (Cond.code yX9_years cX9_years 2 (some .int) :: LW) rX9_years ρ [.ref v0, .int v1] (some (.int r0)) ρ1 := by
  obtain ⟨r, hr⟩ : ∃ r, r = (r0, ρ1) := ⟨_, rfl⟩
  rw [← hr] at hf
  refine WM.ofI (own := RX9) (r := r) hr (by decide) rfl (Nat.le_of_ble_eq_true rfl) ?_
  intro p e s m args below meth c H locs Q hx hb hml hown hts hK hR hS hret ls hl
  obtain ⟨ρ0, hρ0⟩ : ∃ z, z = ρ := ⟨_, rfl⟩
  rw [← hρ0] at hret
  replace hS : WS ρ0 s.heap ρ H locs := hρ0 ▸ hS
  replace hl : lv_has ls 2 [(0, .ref v0), (1, .int v1)] := hl
  unfold fX9_years at hf
  refine lv_aload_n hx hb dX9_years_0 rfl (lv_at hl 0 rfl) ?_
  obtain ⟨x1, h1, hf⟩ := Option.bind_eq_some_iff.mp hf
  refine r_gR hx hb hts inX9 hown hK hR rfl 0 (by decide) (hts _ tw_1_132) h1 dX9_years_1 ?_
  refine lv_iload_n hx hb dX9_years_4 rfl (lv_at hl 1 rfl) ?_
  obtain ⟨x2, h2, hf⟩ := Option.bind_eq_some_iff.mp hf
  obtain ⟨x3, h3, hf⟩ := Option.bind_eq_some_iff.mp hf
  refine w_callV (As := [.int v1]) (rest := []) (st1 := [.int x3.1]) ⟨hx, hb, hml, hown, hts⟩ (kX0_passYears l G ρ x1 v1 _ _ h3) (cu_V hts tw_1_237 tw_2_95 tw_1_235 tw_1_236 tw_1_2 hdX0_passYears rfl rfl ⟨Nat.le_of_ble_eq_true rfl, Nat.le_of_ble_eq_true rfl⟩) hK hR hS rfl h2 rfl hl.1 rfl (Nat.le_of_ble_eq_true rfl) dX9_years_5 ⟨Nat.zero_le _, Nat.zero_le _⟩ rfl (fun H locs hR hS => ?_)
  exact hret _ _ _ _ _ _ dX9_years_8 hR hS hf
/-! BrickedUpAsBlind.pays(I)I -/
def fX9_pays (ρ : Rho) (v0 : Nat) (v1 : Int32) : Option (Int32 × Rho) :=
    (gR ρ 2 v0 0).bind fun x1 =>
    (ckO ρ 0 x1).bind fun x2 =>
    (fX0_payOff ρ x1 v1).bind fun x3 =>
    some (x3.1, x3.2)
abbrev rX9_pays : Room := { frames := 3, cells := 0, slots := 0, locals := 63 }
theorem hdX9_pays : hdP yX9_pays 1 := by unfold hdP; decide +kernel
set_option maxHeartbeats 4000000 in
set_option maxRecDepth 100000 in
theorem kX9_pays (l : Launch) (G : GD) (ρ : Rho) (v0 : Nat) (v1 : Int32) (r0 : Int32) (ρ1 : Rho) (hf : fX9_pays ρ v0 v1 = some (r0, ρ1)) : WM l G yX9_pays (Cond.code yX9_pays cX9_pays 2 (some .int) :: LW) rX9_pays ρ [.ref v0, .int v1] (some (.int r0)) ρ1 := by
  obtain ⟨r, hr⟩ : ∃ r, r = (r0, ρ1) := ⟨_, rfl⟩
  rw [← hr] at hf
  refine WM.ofI (own := RX9) (r := r) hr (by decide) rfl (Nat.le_of_ble_eq_true rfl) ?_
  intro p e s m args below meth c H locs Q hx hb hml hown hts hK hR hS hret ls hl
  obtain ⟨ρ0, hρ0⟩ : ∃ z, z = ρ := ⟨_, rfl⟩
  rw [← hρ0] at hret
  replace hS : WS ρ0 s.heap ρ H locs := hρ0 ▸ hS
  replace hl : lv_has ls 2 [(0, .ref v0), (1, .int v1)] := hl
  unfold fX9_pays at hf
  refine lv_aload_n hx hb dX9_pays_0 rfl (lv_at hl 0 rfl) ?_
  obtain ⟨x1, h1, hf⟩ := Option.bind_eq_some_iff.mp hf
  refine r_gR hx hb hts inX9 hown hK hR rfl 0 (by decide) (hts _ tw_1_132) h1 dX9_pays_1 ?_
  refine lv_iload_n hx hb dX9_pays_4 rfl (lv_at hl 1 rfl) ?_
  obtain ⟨x2, h2, hf⟩ := Option.bind_eq_some_iff.mp hf
  obtain ⟨x3, h3, hf⟩ := Option.bind_eq_some_iff.mp hf
  refine w_callV (As := [.int v1]) (rest := []) (st1 := [.int x3.1]) ⟨hx, hb, hml, hown, hts⟩ (kX0_payOff l G ρ x1 v1 _ _ h3) (cu_V hts tw_2_26 tw_2_100 tw_2_24 tw_2_25 tw_1_2 hdX0_payOff rfl rfl ⟨Nat.le_of_ble_eq_true rfl, Nat.le_of_ble_eq_true rfl⟩) hK hR hS rfl h2 rfl hl.1 rfl (Nat.le_of_ble_eq_true rfl) dX9_pays_5 ⟨Nat.zero_le _, Nat.zero_le _⟩ rfl (fun H locs hR hS => ?_)
  exact hret _ _ _ _ _ _ dX9_pays_8 hR hS hf
/-! BrickedUpAsBlind.light(II)I -/
def fX9_light (ρ : Rho) (v0 : Nat) (v1 : Int32) (v2 : Int32) : Option Int32 :=
    (fX0_isRoom ρ v1).bind fun x1 =>
    if x1 = 0 then (some (-1))
    else ((fX0_isHour ρ v2).bind fun x3 =>
    if x3 = 0 then (some (-1))
    else ((gR ρ 2 v0 0).bind fun x5 =>
    (ckO ρ 0 x5).bind fun x6 =>
    (fX0_roomLight ρ x5 v1 v2).bind fun x7 =>
    some x7))
abbrev rX9_light : Room := { frames := 3, cells := 0, slots := 0, locals := 69 }
theorem hdX9_light : hdP yX9_light 2 := by unfold hdP; decide +kernel
set_option maxHeartbeats 4000000 in
set_option maxRecDepth 100000 in
theorem kX9_light (l : Launch) (G : GD) (ρ : Rho) (v0 : Nat) (v1 : Int32) (v2 : Int32) (r : Int32) (hf : fX9_light ρ v0 v1 v2 = some r) : RM l G yX9_light (Cond.code yX9_light cX9_light 3 (some .int) :: LW) rX9_light ρ [.ref v0, .int v1, .int v2] (some (.int r)) := by
  refine RM.ofI (own := RX9) (by decide) rfl (Nat.le_of_ble_eq_true rfl) ?_
  intro p e s m args below meth c H locs Q hx hb hml hown hts hK hR hret ls hl
  replace hl : lv_has ls 3 [(0, .ref v0), (1, .int v1), (2, .int v2)] := hl
  unfold fX9_light at hf
  refine lv_iload_n hx hb dX9_light_0 rfl (lv_at hl 1 rfl) ?_
  obtain ⟨x1, h1, hf⟩ := Option.bind_eq_some_iff.mp hf
  refine r_callS (As := [.int v1]) (rest := []) (st1 := [.int x1]) ⟨hx, hb, hml, hown, hts⟩ (kX0_isRoom l G ρ v1 _ h1) (cu_S hts tw_1_203 tw_2_69 tw_1_202 tw_1_2 hdX0_isRoom rfl rfl ⟨Nat.le_of_ble_eq_true rfl, Nat.le_of_ble_eq_true rfl⟩) hK hR rfl hl.1 rfl (Nat.le_of_ble_eq_true rfl) dX9_light_1 ⟨Nat.zero_le _, Nat.zero_le _⟩ rfl ?_
  refine lv_if_eq (tgt := 14) hx hb dX9_light_4 (by decide) (fun c2 => ?_) (fun c2 => ?_)
  · replace hf := (if_pos c2).symm.trans hf
    refine lv_iconst (v := (-1)) hx hb dX9_light_14 (by decide) ?_
    exact hret _ _ _ dX9_light_15 hf
  · replace hf := (if_neg c2).symm.trans hf
    refine lv_iload_n hx hb dX9_light_7 rfl (lv_at hl 2 rfl) ?_
    obtain ⟨x3, h3, hf⟩ := Option.bind_eq_some_iff.mp hf
    refine r_callS (As := [.int v2]) (rest := []) (st1 := [.int x3]) ⟨hx, hb, hml, hown, hts⟩ (kX0_isHour l G ρ v2 _ h3) (cu_S hts tw_1_209 tw_2_41 tw_1_208 tw_1_2 hdX0_isHour rfl rfl ⟨Nat.le_of_ble_eq_true rfl, Nat.le_of_ble_eq_true rfl⟩) hK hR rfl hl.1 rfl (Nat.le_of_ble_eq_true rfl) dX9_light_8 ⟨Nat.zero_le _, Nat.zero_le _⟩ rfl ?_
    refine lv_if_ne (tgt := 16) hx hb dX9_light_11 (by decide) (fun c4 => ?_) (fun c4 => ?_)
    · replace hf := (if_neg c4).symm.trans hf
      refine lv_aload_n hx hb dX9_light_16 rfl (lv_at hl 0 rfl) ?_
      obtain ⟨x5, h5, hf⟩ := Option.bind_eq_some_iff.mp hf
      refine r_gR hx hb hts inX9 hown hK hR rfl 0 (by decide) (hts _ tw_1_132) h5 dX9_light_17 ?_
      refine lv_iload_n hx hb dX9_light_20 rfl (lv_at hl 1 rfl) ?_
      refine lv_iload_n hx hb dX9_light_21 rfl (lv_at hl 2 rfl) ?_
      obtain ⟨x6, h6, hf⟩ := Option.bind_eq_some_iff.mp hf
      obtain ⟨x7, h7, hf⟩ := Option.bind_eq_some_iff.mp hf
      refine r_callV (As := [.int v1, .int v2]) (rest := []) (st1 := [.int x7]) ⟨hx, hb, hml, hown, hts⟩ (kX0_roomLight l G ρ x5 v1 v2 _ h7) (cu_V hts tw_2_108 tw_2_105 tw_2_106 tw_2_107 tw_1_2 hdX0_roomLight rfl rfl ⟨Nat.le_of_ble_eq_true rfl, Nat.le_of_ble_eq_true rfl⟩) hK hR rfl h6 rfl hl.1 rfl (Nat.le_of_ble_eq_true rfl) dX9_light_22 ⟨Nat.zero_le _, Nat.zero_le _⟩ rfl ?_
      exact hret _ _ _ dX9_light_25 hf
    · replace hf := (if_pos c4).symm.trans hf
      refine lv_iconst (v := (-1)) hx hb dX9_light_14 (by decide) ?_
      exact hret _ _ _ dX9_light_15 hf
/-! BrickedUpAsBlind.allDue()I -/
def fX9_allDue (ρ : Rho) (v0 : Nat) : Option Int32 :=
    (gR ρ 2 v0 0).bind fun x1 =>
    (ckO ρ 0 x1).bind fun x2 =>
    (fX0_openDues ρ x1).bind fun x3 =>
    some x3
abbrev rX9_allDue : Room := { frames := 2, cells := 0, slots := 0, locals := 45 }
theorem hdX9_allDue : hdP yX9_allDue 0 := by unfold hdP; decide +kernel
set_option maxHeartbeats 4000000 in
set_option maxRecDepth 100000 in
theorem kX9_allDue (l : Launch) (G : GD) (ρ : Rho) (v0 : Nat) (r : Int32) (hf : fX9_allDue ρ v0 = some r) : RM l G yX9_allDue (Cond.code yX9_allDue cX9_allDue 1 (some .int) :: LW) rX9_allDue ρ [.ref v0] (some (.int r)) := by
  refine RM.ofI (own := RX9) (by decide) rfl (Nat.le_of_ble_eq_true rfl) ?_
  intro p e s m args below meth c H locs Q hx hb hml hown hts hK hR hret ls hl
  replace hl : lv_has ls 1 [(0, .ref v0)] := hl
  unfold fX9_allDue at hf
  refine lv_aload_n hx hb dX9_allDue_0 rfl (lv_at hl 0 rfl) ?_
  obtain ⟨x1, h1, hf⟩ := Option.bind_eq_some_iff.mp hf
  refine r_gR hx hb hts inX9 hown hK hR rfl 0 (by decide) (hts _ tw_1_132) h1 dX9_allDue_1 ?_
  obtain ⟨x2, h2, hf⟩ := Option.bind_eq_some_iff.mp hf
  obtain ⟨x3, h3, hf⟩ := Option.bind_eq_some_iff.mp hf
  refine r_callV (As := []) (rest := []) (st1 := [.int x3]) ⟨hx, hb, hml, hown, hts⟩ (kX0_openDues l G ρ x1 _ h3) (cu_V hts tw_2_5 tw_2_114 tw_2_3 tw_2_4 tw_1_2 hdX0_openDues rfl rfl ⟨Nat.le_of_ble_eq_true rfl, Nat.le_of_ble_eq_true rfl⟩) hK hR rfl h2 rfl hl.1 rfl (Nat.le_of_ble_eq_true rfl) dX9_allDue_4 ⟨Nat.zero_le _, Nat.zero_le _⟩ rfl ?_
  exact hret _ _ _ dX9_allDue_7 hf
/-! BrickedUpAsBlind.isZeroOrOne(I)Z -/
def fX9_isZeroOrOne (ρ : Rho) (v0 : Int32) : Option Int32 :=
    if v0 = 0 then (nb 1)
    else (if v0 = 1 then (nb 1)
    else (nb 0))
abbrev rX9_isZeroOrOne : Room := { frames := 0, cells := 0, slots := 0, locals := 0 }
theorem hdX9_isZeroOrOne : hdP yX9_isZeroOrOne 1 := by unfold hdP; decide +kernel
set_option maxHeartbeats 4000000 in
set_option maxRecDepth 100000 in
theorem kX9_isZeroOrOne (l : Launch) (G : GD) (ρ : Rho) (v0 : Int32) (r : Int32) (hf : fX9_isZeroOrOne ρ v0 = some r) : RM l G yX9_isZeroOrOne (Cond.code yX9_isZeroOrOne cX9_isZeroOrOne 1 (some .boolean) :: LW) rX9_isZeroOrOne ρ [.int v0] (some (.int r)) := by
  refine RM.ofZ (own := RX9) (by decide) rfl (Nat.le_of_ble_eq_true rfl) ?_
  intro p e s m args below meth c H locs Q hx hb hml hown hts hK hR hret ls hl
  replace hl : lv_has ls 1 [(0, .int v0)] := hl
  unfold fX9_isZeroOrOne at hf
  refine lv_iload_n hx hb dX9_isZeroOrOne_0 rfl (lv_at hl 0 rfl) ?_
  refine lv_if_eq (tgt := 9) hx hb dX9_isZeroOrOne_1 (by decide) (fun c1 => ?_) (fun c1 => ?_)
  · replace hf := (if_pos c1).symm.trans hf
    refine lv_iconst (v := 1) hx hb dX9_isZeroOrOne_9 (by decide) ?_
    refine lv_goto (tgt := 14) hx hb dX9_isZeroOrOne_10 (by decide) ?_
    exact hret _ _ _ dX9_isZeroOrOne_14 hf
  · replace hf := (if_neg c1).symm.trans hf
    refine lv_iload_n hx hb dX9_isZeroOrOne_4 rfl (lv_at hl 0 rfl) ?_
    refine lv_iconst (v := 1) hx hb dX9_isZeroOrOne_5 (by decide) ?_
    refine lv_icmp_ne (tgt := 13) hx hb dX9_isZeroOrOne_6 (by decide) (fun c2 => ?_) (fun c2 => ?_)
    · replace hf := (if_neg c2).symm.trans hf
      refine lv_iconst (v := 0) hx hb dX9_isZeroOrOne_13 (by decide) ?_
      exact hret _ _ _ dX9_isZeroOrOne_14 hf
    · replace hf := (if_pos c2).symm.trans hf
      refine lv_iconst (v := 1) hx hb dX9_isZeroOrOne_9 (by decide) ?_
      refine lv_goto (tgt := 14) hx hb dX9_isZeroOrOne_10 (by decide) ?_
      exact hret _ _ _ dX9_isZeroOrOne_14 hf
/-! BrickedUpAsBlind.stop(I)I -/
def fX9_stop (ρ : Rho) (v0 : Nat) (v1 : Int32) : Option (Int32 × Rho) :=
    (fX9_isZeroOrOne ρ v1).bind fun x1 =>
    if x1 = 0 then (some ((-1), ρ))
    else ((gR ρ 2 v0 2).bind fun x3 =>
    (gR ρ 2 v0 0).bind fun x4 =>
    (ckO ρ 0 x3).bind fun x5 =>
    (fX0_become ρ x3 x4).bind fun x6 =>
    (gR x6 2 v0 2).bind fun x7 =>
    (fX2_cheapestStops x6 x7).bind fun x8 =>
    if x8.1 < 0 then (some (x8.1, x8.2))
    else (if v1 = 0 then (some (x8.1, x8.2))
    else ((gR x8.2 2 v0 2).bind fun x11 =>
    (ptV x8.2 0 x11 6 (.int x8.1)).bind fun x12 =>
    (gR x12 2 v0 2).bind fun x13 =>
    (ckO x12 0 x13).bind fun x14 =>
    (fX0_openDues x12 x13).bind fun x15 =>
    some (x15, x12))))
abbrev rX9_stop : Room := { frames := 6, cells := 0, slots := 0, locals := 137 }
theorem hdX9_stop : hdP yX9_stop 1 := by unfold hdP; decide +kernel
set_option maxHeartbeats 4000000 in
set_option maxRecDepth 100000 in
theorem kX9_stop (l : Launch) (G : GD) (ρ : Rho) (v0 : Nat) (v1 : Int32) (r0 : Int32) (ρ1 : Rho) (hf : fX9_stop ρ v0 v1 = some (r0, ρ1)) : WM l G yX9_stop (Cond.code yX9_stop cX9_stop 3 (some .int) :: LW) rX9_stop ρ [.ref v0, .int v1] (some (.int r0)) ρ1 := by
  obtain ⟨r, hr⟩ : ∃ r, r = (r0, ρ1) := ⟨_, rfl⟩
  rw [← hr] at hf
  refine WM.ofI (own := RX9) (r := r) hr (by decide) rfl (Nat.le_of_ble_eq_true rfl) ?_
  intro p e s m args below meth c H locs Q hx hb hml hown hts hK hR hS hret ls hl
  obtain ⟨ρ0, hρ0⟩ : ∃ z, z = ρ := ⟨_, rfl⟩
  rw [← hρ0] at hret
  replace hS : WS ρ0 s.heap ρ H locs := hρ0 ▸ hS
  replace hl : lv_has ls 3 [(0, .ref v0), (1, .int v1)] := hl
  unfold fX9_stop at hf
  refine lv_iload_n hx hb dX9_stop_0 rfl (lv_at hl 1 rfl) ?_
  obtain ⟨x1, h1, hf⟩ := Option.bind_eq_some_iff.mp hf
  refine r_callS (As := [.int v1]) (rest := []) (st1 := [.int x1]) ⟨hx, hb, hml, hown, hts⟩ (kX9_isZeroOrOne l G ρ v1 _ h1) (cu_S hts tw_2_121 tw_2_119 tw_2_120 tw_1_1 hdX9_isZeroOrOne rfl rfl ⟨Nat.le_of_ble_eq_true rfl, Nat.le_of_ble_eq_true rfl⟩) hK hR rfl hl.1 rfl (Nat.le_of_ble_eq_true rfl) dX9_stop_1 ⟨Nat.zero_le _, Nat.zero_le _⟩ rfl ?_
  refine lv_if_ne (tgt := 9) hx hb dX9_stop_4 (by decide) (fun c2 => ?_) (fun c2 => ?_)
  · replace hf := (if_neg c2).symm.trans hf
    refine lv_aload_n hx hb dX9_stop_9 rfl (lv_at hl 0 rfl) ?_
    obtain ⟨x3, h3, hf⟩ := Option.bind_eq_some_iff.mp hf
    refine r_gR hx hb hts inX9 hown hK hR rfl 2 (by decide) (hts _ tw_1_134) h3 dX9_stop_10 ?_
    refine lv_aload_n hx hb dX9_stop_13 rfl (lv_at hl 0 rfl) ?_
    obtain ⟨x4, h4, hf⟩ := Option.bind_eq_some_iff.mp hf
    refine r_gR hx hb hts inX9 hown hK hR rfl 0 (by decide) (hts _ tw_1_132) h4 dX9_stop_14 ?_
    obtain ⟨x5, h5, hf⟩ := Option.bind_eq_some_iff.mp hf
    obtain ⟨x6, h6, hf⟩ := Option.bind_eq_some_iff.mp hf
    refine w_callV (As := [.ref x4]) (rest := []) (st1 := []) ⟨hx, hb, hml, hown, hts⟩ (kX0_become l G ρ x3 x4 _ h6) (cu_V hts tw_1_178 tw_1_175 tw_1_176 tw_1_177 tw_1_2 hdX0_become rfl rfl ⟨Nat.le_of_ble_eq_true rfl, Nat.le_of_ble_eq_true rfl⟩) hK hR hS rfl h5 rfl hl.1 rfl (Nat.le_of_ble_eq_true rfl) dX9_stop_17 ⟨Nat.zero_le _, Nat.zero_le _⟩ rfl (fun H locs hR hS => ?_)
    refine lv_aload_n hx hb dX9_stop_20 rfl (lv_at hl 0 rfl) ?_
    obtain ⟨x7, h7, hf⟩ := Option.bind_eq_some_iff.mp hf
    refine r_gR hx hb hts inX9 hown hK hR rfl 2 (by decide) (hts _ tw_1_134) h7 dX9_stop_21 ?_
    obtain ⟨x8, h8, hf⟩ := Option.bind_eq_some_iff.mp hf
    refine w_callS (As := [.ref x7]) (rest := []) (st1 := [.int x8.1]) ⟨hx, hb, hml, hown, hts⟩ (kX2_cheapestStops l G x6 x7 _ _ h8) (cu_S hts tw_2_124 tw_2_122 tw_2_123 tw_1_9 hdX2_cheapestStops rfl rfl ⟨Nat.le_of_ble_eq_true rfl, Nat.le_of_ble_eq_true rfl⟩) hK hR hS rfl hl.1 rfl (Nat.le_of_ble_eq_true rfl) dX9_stop_24 ⟨Nat.zero_le _, Nat.zero_le _⟩ rfl (fun H locs hR hS => ?_)
    refine lv_istore_n (lv' := [(2, .int x8.1), (0, .ref v0), (1, .int v1)]) hx hb dX9_stop_27 rfl hl (by decide) rfl (fun ls hl => ?_)
    refine lv_iload_n hx hb dX9_stop_28 rfl (lv_at hl 0 rfl) ?_
    refine lv_if_lt (tgt := 36) hx hb dX9_stop_29 (by decide) (fun c9 => ?_) (fun c9 => ?_)
    · replace hf := (if_pos c9).symm.trans hf
      refine lv_iload_n hx hb dX9_stop_36 rfl (lv_at hl 0 rfl) ?_
      exact hret _ _ _ _ _ _ dX9_stop_37 hR hS hf
    · replace hf := (if_neg c9).symm.trans hf
      refine lv_iload_n hx hb dX9_stop_32 rfl (lv_at hl 2 rfl) ?_
      refine lv_if_ne (tgt := 38) hx hb dX9_stop_33 (by decide) (fun c10 => ?_) (fun c10 => ?_)
      · replace hf := (if_neg c10).symm.trans hf
        refine lv_aload_n hx hb dX9_stop_38 rfl (lv_at hl 1 rfl) ?_
        obtain ⟨x11, h11, hf⟩ := Option.bind_eq_some_iff.mp hf
        refine r_gR hx hb hts inX9 hown hK hR rfl 2 (by decide) (hts _ tw_1_134) h11 dX9_stop_39 ?_
        refine lv_iload_n hx hb dX9_stop_42 rfl (lv_at hl 0 rfl) ?_
        obtain ⟨x12, h12, hf⟩ := Option.bind_eq_some_iff.mp hf
        refine w_ptV hx hb hts inX0 tyX0 tyX0_ok nmX0 hown hK hR hS rfl 6 (by decide) (hts _ tw_1_57) rfl (ty := .int) rfl rfl rfl h12 dX9_stop_43 (fun H locs hR hS => ?_)
        refine lv_aload_n hx hb dX9_stop_46 rfl (lv_at hl 1 rfl) ?_
        obtain ⟨x13, h13, hf⟩ := Option.bind_eq_some_iff.mp hf
        refine r_gR hx hb hts inX9 hown hK hR rfl 2 (by decide) (hts _ tw_1_134) h13 dX9_stop_47 ?_
        obtain ⟨x14, h14, hf⟩ := Option.bind_eq_some_iff.mp hf
        obtain ⟨x15, h15, hf⟩ := Option.bind_eq_some_iff.mp hf
        refine r_callV (As := []) (rest := []) (st1 := [.int x15]) ⟨hx, hb, hml, hown, hts⟩ (kX0_openDues l G x12 x13 _ h15) (cu_V hts tw_2_5 tw_2_114 tw_2_3 tw_2_4 tw_1_2 hdX0_openDues rfl rfl ⟨Nat.le_of_ble_eq_true rfl, Nat.le_of_ble_eq_true rfl⟩) hK hR rfl h14 rfl hl.1 rfl (Nat.le_of_ble_eq_true rfl) dX9_stop_50 ⟨Nat.zero_le _, Nat.zero_le _⟩ rfl ?_
        exact hret _ _ _ _ _ _ dX9_stop_53 hR hS hf
      · replace hf := (if_pos c10).symm.trans hf
        refine lv_iload_n hx hb dX9_stop_36 rfl (lv_at hl 0 rfl) ?_
        exact hret _ _ _ _ _ _ dX9_stop_37 hR hS hf
  · replace hf := (if_pos c2).symm.trans hf
    refine lv_iconst (v := (-1)) hx hb dX9_stop_7 (by decide) ?_
    exact hret _ _ _ _ _ _ dX9_stop_8 hR hS hf
/-! BrickedUpAsBlind.dark()I -/
def fX9_dark (ρ : Rho) (v0 : Nat) : Option Int32 :=
    (gR ρ 2 v0 0).bind fun x1 =>
    (fX2_darkHours ρ x1).bind fun x2 =>
    some x2
abbrev rX9_dark : Room := { frames := 6, cells := 0, slots := 0, locals := 135 }
theorem hdX9_dark : hdP yX9_dark 0 := by unfold hdP; decide +kernel
set_option maxHeartbeats 4000000 in
set_option maxRecDepth 100000 in
theorem kX9_dark (l : Launch) (G : GD) (ρ : Rho) (v0 : Nat) (r : Int32) (hf : fX9_dark ρ v0 = some r) : RM l G yX9_dark (Cond.code yX9_dark cX9_dark 1 (some .int) :: LW) rX9_dark ρ [.ref v0] (some (.int r)) := by
  refine RM.ofI (own := RX9) (by decide) rfl (Nat.le_of_ble_eq_true rfl) ?_
  intro p e s m args below meth c H locs Q hx hb hml hown hts hK hR hret ls hl
  replace hl : lv_has ls 1 [(0, .ref v0)] := hl
  unfold fX9_dark at hf
  refine lv_aload_n hx hb dX9_dark_0 rfl (lv_at hl 0 rfl) ?_
  obtain ⟨x1, h1, hf⟩ := Option.bind_eq_some_iff.mp hf
  refine r_gR hx hb hts inX9 hown hK hR rfl 0 (by decide) (hts _ tw_1_132) h1 dX9_dark_1 ?_
  obtain ⟨x2, h2, hf⟩ := Option.bind_eq_some_iff.mp hf
  refine r_callS (As := [.ref x1]) (rest := []) (st1 := [.int x2]) ⟨hx, hb, hml, hown, hts⟩ (kX2_darkHours l G ρ x1 _ h2) (cu_S hts tw_2_142 tw_2_140 tw_2_141 tw_1_9 hdX2_darkHours rfl rfl ⟨Nat.le_of_ble_eq_true rfl, Nat.le_of_ble_eq_true rfl⟩) hK hR rfl hl.1 rfl (Nat.le_of_ble_eq_true rfl) dX9_dark_4 ⟨Nat.zero_le _, Nat.zero_le _⟩ rfl ?_
  exact hret _ _ _ dX9_dark_7 hf
/-! BrickedUpAsBlind.darkest()I -/
def fX9_darkest (ρ : Rho) (v0 : Nat) : Option Int32 :=
    (gR ρ 2 v0 0).bind fun x1 =>
    (fX2_darkestHour ρ x1).bind fun x2 =>
    some x2
abbrev rX9_darkest : Room := { frames := 4, cells := 0, slots := 0, locals := 90 }
theorem hdX9_darkest : hdP yX9_darkest 0 := by unfold hdP; decide +kernel
set_option maxHeartbeats 4000000 in
set_option maxRecDepth 100000 in
theorem kX9_darkest (l : Launch) (G : GD) (ρ : Rho) (v0 : Nat) (r : Int32) (hf : fX9_darkest ρ v0 = some r) : RM l G yX9_darkest (Cond.code yX9_darkest cX9_darkest 1 (some .int) :: LW) rX9_darkest ρ [.ref v0] (some (.int r)) := by
  refine RM.ofI (own := RX9) (by decide) rfl (Nat.le_of_ble_eq_true rfl) ?_
  intro p e s m args below meth c H locs Q hx hb hml hown hts hK hR hret ls hl
  replace hl : lv_has ls 1 [(0, .ref v0)] := hl
  unfold fX9_darkest at hf
  refine lv_aload_n hx hb dX9_darkest_0 rfl (lv_at hl 0 rfl) ?_
  obtain ⟨x1, h1, hf⟩ := Option.bind_eq_some_iff.mp hf
  refine r_gR hx hb hts inX9 hown hK hR rfl 0 (by decide) (hts _ tw_1_132) h1 dX9_darkest_1 ?_
  obtain ⟨x2, h2, hf⟩ := Option.bind_eq_some_iff.mp hf
  refine r_callS (As := [.ref x1]) (rest := []) (st1 := [.int x2]) ⟨hx, hb, hml, hown, hts⟩ (kX2_darkestHour l G ρ x1 _ h2) (cu_S hts tw_2_149 tw_2_147 tw_2_148 tw_1_9 hdX2_darkestHour rfl rfl ⟨Nat.le_of_ble_eq_true rfl, Nat.le_of_ble_eq_true rfl⟩) hK hR rfl hl.1 rfl (Nat.le_of_ble_eq_true rfl) dX9_darkest_4 ⟨Nat.zero_le _, Nat.zero_le _⟩ rfl ?_
  exact hret _ _ _ dX9_darkest_7 hf
/-! BrickedUpAsBlind.bright(I)I -/
def fX9_bright (ρ : Rho) (v0 : Nat) (v1 : Int32) : Option Int32 :=
    (fX9_isZeroOrOne ρ v1).bind fun x1 =>
    if x1 = 0 then (some (-1))
    else ((gR ρ 2 v0 0).bind fun x3 =>
    (fX2_darkHours ρ x3).bind fun x4 =>
    (fX2_longestBrightFrom ρ x4).bind fun x5 =>
    if v1 = 0 then (some x5)
    else ((gR ρ 2 v0 0).bind fun x7 =>
    (fX2_darkHours ρ x7).bind fun x8 =>
    (fX2_brightStretch ρ x8 x5).bind fun x9 =>
    some x9))
abbrev rX9_bright : Room := { frames := 6, cells := 0, slots := 0, locals := 135 }
theorem hdX9_bright : hdP yX9_bright 1 := by unfold hdP; decide +kernel
set_option maxHeartbeats 4000000 in
set_option maxRecDepth 100000 in
theorem kX9_bright (l : Launch) (G : GD) (ρ : Rho) (v0 : Nat) (v1 : Int32) (r : Int32) (hf : fX9_bright ρ v0 v1 = some r) : RM l G yX9_bright (Cond.code yX9_bright cX9_bright 3 (some .int) :: LW) rX9_bright ρ [.ref v0, .int v1] (some (.int r)) := by
  refine RM.ofI (own := RX9) (by decide) rfl (Nat.le_of_ble_eq_true rfl) ?_
  intro p e s m args below meth c H locs Q hx hb hml hown hts hK hR hret ls hl
  replace hl : lv_has ls 3 [(0, .ref v0), (1, .int v1)] := hl
  unfold fX9_bright at hf
  refine lv_iload_n hx hb dX9_bright_0 rfl (lv_at hl 1 rfl) ?_
  obtain ⟨x1, h1, hf⟩ := Option.bind_eq_some_iff.mp hf
  refine r_callS (As := [.int v1]) (rest := []) (st1 := [.int x1]) ⟨hx, hb, hml, hown, hts⟩ (kX9_isZeroOrOne l G ρ v1 _ h1) (cu_S hts tw_2_121 tw_2_119 tw_2_120 tw_1_1 hdX9_isZeroOrOne rfl rfl ⟨Nat.le_of_ble_eq_true rfl, Nat.le_of_ble_eq_true rfl⟩) hK hR rfl hl.1 rfl (Nat.le_of_ble_eq_true rfl) dX9_bright_1 ⟨Nat.zero_le _, Nat.zero_le _⟩ rfl ?_
  refine lv_if_ne (tgt := 9) hx hb dX9_bright_4 (by decide) (fun c2 => ?_) (fun c2 => ?_)
  · replace hf := (if_neg c2).symm.trans hf
    refine lv_aload_n hx hb dX9_bright_9 rfl (lv_at hl 0 rfl) ?_
    obtain ⟨x3, h3, hf⟩ := Option.bind_eq_some_iff.mp hf
    refine r_gR hx hb hts inX9 hown hK hR rfl 0 (by decide) (hts _ tw_1_132) h3 dX9_bright_10 ?_
    obtain ⟨x4, h4, hf⟩ := Option.bind_eq_some_iff.mp hf
    refine r_callS (As := [.ref x3]) (rest := []) (st1 := [.int x4]) ⟨hx, hb, hml, hown, hts⟩ (kX2_darkHours l G ρ x3 _ h4) (cu_S hts tw_2_142 tw_2_140 tw_2_141 tw_1_9 hdX2_darkHours rfl rfl ⟨Nat.le_of_ble_eq_true rfl, Nat.le_of_ble_eq_true rfl⟩) hK hR rfl hl.1 rfl (Nat.le_of_ble_eq_true rfl) dX9_bright_13 ⟨Nat.zero_le _, Nat.zero_le _⟩ rfl ?_
    obtain ⟨x5, h5, hf⟩ := Option.bind_eq_some_iff.mp hf
    refine r_callS (As := [.int x4]) (rest := []) (st1 := [.int x5]) ⟨hx, hb, hml, hown, hts⟩ (kX2_longestBrightFrom l G ρ x4 _ h5) (cu_S hts tw_2_160 tw_2_158 tw_2_159 tw_1_9 hdX2_longestBrightFrom rfl rfl ⟨Nat.le_of_ble_eq_true rfl, Nat.le_of_ble_eq_true rfl⟩) hK hR rfl hl.1 rfl (Nat.le_of_ble_eq_true rfl) dX9_bright_16 ⟨Nat.zero_le _, Nat.zero_le _⟩ rfl ?_
    refine lv_istore_n (lv' := [(2, .int x5), (0, .ref v0), (1, .int v1)]) hx hb dX9_bright_19 rfl hl (by decide) rfl (fun ls hl => ?_)
    refine lv_iload_n hx hb dX9_bright_20 rfl (lv_at hl 2 rfl) ?_
    refine lv_if_ne (tgt := 28) hx hb dX9_bright_21 (by decide) (fun c6 => ?_) (fun c6 => ?_)
    · replace hf := (if_neg c6).symm.trans hf
      refine lv_aload_n hx hb dX9_bright_28 rfl (lv_at hl 1 rfl) ?_
      obtain ⟨x7, h7, hf⟩ := Option.bind_eq_some_iff.mp hf
      refine r_gR hx hb hts inX9 hown hK hR rfl 0 (by decide) (hts _ tw_1_132) h7 dX9_bright_29 ?_
      obtain ⟨x8, h8, hf⟩ := Option.bind_eq_some_iff.mp hf
      refine r_callS (As := [.ref x7]) (rest := []) (st1 := [.int x8]) ⟨hx, hb, hml, hown, hts⟩ (kX2_darkHours l G ρ x7 _ h8) (cu_S hts tw_2_142 tw_2_140 tw_2_141 tw_1_9 hdX2_darkHours rfl rfl ⟨Nat.le_of_ble_eq_true rfl, Nat.le_of_ble_eq_true rfl⟩) hK hR rfl hl.1 rfl (Nat.le_of_ble_eq_true rfl) dX9_bright_32 ⟨Nat.zero_le _, Nat.zero_le _⟩ rfl ?_
      refine lv_iload_n hx hb dX9_bright_35 rfl (lv_at hl 0 rfl) ?_
      obtain ⟨x9, h9, hf⟩ := Option.bind_eq_some_iff.mp hf
      refine r_callS (As := [.int x8, .int x5]) (rest := []) (st1 := [.int x9]) ⟨hx, hb, hml, hown, hts⟩ (kX2_brightStretch l G ρ x8 x5 _ h9) (cu_S hts tw_2_163 tw_2_164 tw_2_162 tw_1_9 hdX2_brightStretch rfl rfl ⟨Nat.le_of_ble_eq_true rfl, Nat.le_of_ble_eq_true rfl⟩) hK hR rfl hl.1 rfl (Nat.le_of_ble_eq_true rfl) dX9_bright_36 ⟨Nat.zero_le _, Nat.zero_le _⟩ rfl ?_
      exact hret _ _ _ dX9_bright_39 hf
    · replace hf := (if_pos c6).symm.trans hf
      refine lv_iload_n hx hb dX9_bright_24 rfl (lv_at hl 0 rfl) ?_
      refine lv_goto (tgt := 39) hx hb dX9_bright_25 (by decide) ?_
      exact hret _ _ _ dX9_bright_39 hf
  · replace hf := (if_pos c2).symm.trans hf
    refine lv_iconst (v := (-1)) hx hb dX9_bright_7 (by decide) ?_
    exact hret _ _ _ dX9_bright_8 hf
/-! BrickedUpAsBlind.mirrors()I -/
def fX9_mirrors (ρ : Rho) (v0 : Nat) : Option Int32 :=
    (gR ρ 2 v0 0).bind fun x1 =>
    (fX2_fewestMirrors ρ x1).bind fun x2 =>
    some x2
abbrev rX9_mirrors : Room := { frames := 5, cells := 0, slots := 0, locals := 114 }
theorem hdX9_mirrors : hdP yX9_mirrors 0 := by unfold hdP; decide +kernel
set_option maxHeartbeats 4000000 in
set_option maxRecDepth 100000 in
theorem kX9_mirrors (l : Launch) (G : GD) (ρ : Rho) (v0 : Nat) (r : Int32) (hf : fX9_mirrors ρ v0 = some r) : RM l G yX9_mirrors (Cond.code yX9_mirrors cX9_mirrors 1 (some .int) :: LW) rX9_mirrors ρ [.ref v0] (some (.int r)) := by
  refine RM.ofI (own := RX9) (by decide) rfl (Nat.le_of_ble_eq_true rfl) ?_
  intro p e s m args below meth c H locs Q hx hb hml hown hts hK hR hret ls hl
  replace hl : lv_has ls 1 [(0, .ref v0)] := hl
  unfold fX9_mirrors at hf
  refine lv_aload_n hx hb dX9_mirrors_0 rfl (lv_at hl 0 rfl) ?_
  obtain ⟨x1, h1, hf⟩ := Option.bind_eq_some_iff.mp hf
  refine r_gR hx hb hts inX9 hown hK hR rfl 0 (by decide) (hts _ tw_1_132) h1 dX9_mirrors_1 ?_
  obtain ⟨x2, h2, hf⟩ := Option.bind_eq_some_iff.mp hf
  refine r_callS (As := [.ref x1]) (rest := []) (st1 := [.int x2]) ⟨hx, hb, hml, hown, hts⟩ (kX2_fewestMirrors l G ρ x1 _ h2) (cu_S hts tw_2_171 tw_2_169 tw_2_170 tw_1_9 hdX2_fewestMirrors rfl rfl ⟨Nat.le_of_ble_eq_true rfl, Nat.le_of_ble_eq_true rfl⟩) hK hR rfl hl.1 rfl (Nat.le_of_ble_eq_true rfl) dX9_mirrors_4 ⟨Nat.zero_le _, Nat.zero_le _⟩ rfl ?_
  exact hret _ _ _ dX9_mirrors_7 hf
/-! BrickedUpAsBlind.mean(II)J -/
def fX9_mean_14 (ρ : Rho) : Option Int64 :=
    some 1000000001
def fX9_mean (ρ : Rho) (v0 : Nat) (v1 : Int32) (v2 : Int32) : Option Int64 :=
    (fX0_isRoom ρ v1).bind fun x1 =>
    if x1 = 0 then (fX9_mean_14 ρ)
    else ((fX9_isZeroOrOne ρ v2).bind fun x3 =>
    if x3 = 0 then (fX9_mean_14 ρ)
    else ((gR ρ 2 v0 0).bind fun x5 =>
    (fX2_dayLight ρ x5 v1).bind fun x6 =>
    (fX4_leastTerms ρ (Int32.toInt64 x6) 24 v2).bind fun x7 =>
    some x7))
abbrev rX9_mean : Room := { frames := 4, cells := 0, slots := 0, locals := 92 }
theorem hdX9_mean : hdP yX9_mean 2 := by unfold hdP; decide +kernel
set_option maxHeartbeats 4000000 in
set_option maxRecDepth 100000 in
theorem kX9_mean (l : Launch) (G : GD) (ρ : Rho) (v0 : Nat) (v1 : Int32) (v2 : Int32) (r : Int64) (hf : fX9_mean ρ v0 v1 v2 = some r) : RM l G yX9_mean (Cond.code yX9_mean cX9_mean 3 (some .long) :: LW) rX9_mean ρ [.ref v0, .int v1, .int v2] (some (.long r)) := by
  refine RM.ofL (own := RX9) (by decide) rfl (Nat.le_of_ble_eq_true rfl) ?_
  intro p e s m args below meth c H locs Q hx hb hml hown hts hK hR hret ls hl
  replace hl : lv_has ls 3 [(0, .ref v0), (1, .int v1), (2, .int v2)] := hl
  have J14 : ∀ (ls : Array Slot), fX9_mean_14 ρ = some r → lv_has ls 3 [] → W p l e rX9_mean s m args below meth c H locs 0 0 Q (F0 m 14 ls []) := by
    intro ls hf hl
    rw [fX9_mean_14] at hf
    refine lv_ldc2 (v := 1000000001) hx hb hown (hts _ (lw_t2 (List.mem_of_getElem? (i := 178) rfl) rfl)) dX9_mean_14 ?_
    exact hret _ _ _ dX9_mean_17 hf
  unfold fX9_mean at hf
  refine lv_iload_n hx hb dX9_mean_0 rfl (lv_at hl 1 rfl) ?_
  obtain ⟨x1, h1, hf⟩ := Option.bind_eq_some_iff.mp hf
  refine r_callS (As := [.int v1]) (rest := []) (st1 := [.int x1]) ⟨hx, hb, hml, hown, hts⟩ (kX0_isRoom l G ρ v1 _ h1) (cu_S hts tw_1_203 tw_2_69 tw_1_202 tw_1_2 hdX0_isRoom rfl rfl ⟨Nat.le_of_ble_eq_true rfl, Nat.le_of_ble_eq_true rfl⟩) hK hR rfl hl.1 rfl (Nat.le_of_ble_eq_true rfl) dX9_mean_1 ⟨Nat.zero_le _, Nat.zero_le _⟩ rfl ?_
  refine lv_if_eq (tgt := 14) hx hb dX9_mean_4 (by decide) (fun c2 => ?_) (fun c2 => ?_)
  · replace hf := (if_pos c2).symm.trans hf
    exact J14 ls hf (lv_sub hl [] rfl)
  · replace hf := (if_neg c2).symm.trans hf
    refine lv_iload_n hx hb dX9_mean_7 rfl (lv_at hl 2 rfl) ?_
    obtain ⟨x3, h3, hf⟩ := Option.bind_eq_some_iff.mp hf
    refine r_callS (As := [.int v2]) (rest := []) (st1 := [.int x3]) ⟨hx, hb, hml, hown, hts⟩ (kX9_isZeroOrOne l G ρ v2 _ h3) (cu_S hts tw_2_121 tw_2_119 tw_2_120 tw_1_1 hdX9_isZeroOrOne rfl rfl ⟨Nat.le_of_ble_eq_true rfl, Nat.le_of_ble_eq_true rfl⟩) hK hR rfl hl.1 rfl (Nat.le_of_ble_eq_true rfl) dX9_mean_8 ⟨Nat.zero_le _, Nat.zero_le _⟩ rfl ?_
    refine lv_if_ne (tgt := 18) hx hb dX9_mean_11 (by decide) (fun c4 => ?_) (fun c4 => ?_)
    · replace hf := (if_neg c4).symm.trans hf
      refine lv_aload_n hx hb dX9_mean_18 rfl (lv_at hl 0 rfl) ?_
      obtain ⟨x5, h5, hf⟩ := Option.bind_eq_some_iff.mp hf
      refine r_gR hx hb hts inX9 hown hK hR rfl 0 (by decide) (hts _ tw_1_132) h5 dX9_mean_19 ?_
      refine lv_iload_n hx hb dX9_mean_22 rfl (lv_at hl 1 rfl) ?_
      obtain ⟨x6, h6, hf⟩ := Option.bind_eq_some_iff.mp hf
      refine r_callS (As := [.ref x5, .int v1]) (rest := []) (st1 := [.int x6]) ⟨hx, hb, hml, hown, hts⟩ (kX2_dayLight l G ρ x5 v1 _ h6) (cu_S hts tw_2_181 tw_2_179 tw_2_180 tw_1_9 hdX2_dayLight rfl rfl ⟨Nat.le_of_ble_eq_true rfl, Nat.le_of_ble_eq_true rfl⟩) hK hR rfl hl.1 rfl (Nat.le_of_ble_eq_true rfl) dX9_mean_23 ⟨Nat.zero_le _, Nat.zero_le _⟩ rfl ?_
      refine lv_i2l (v := (Int32.toInt64 x6)) hx hb dX9_mean_26 rfl ?_
      refine lv_ldc2 (v := 24) hx hb hown (hts _ (lw_t2 (List.mem_of_getElem? (i := 182) rfl) rfl)) dX9_mean_27 ?_
      refine lv_iload_n hx hb dX9_mean_30 rfl (lv_at hl 2 rfl) ?_
      obtain ⟨x7, h7, hf⟩ := Option.bind_eq_some_iff.mp hf
      refine r_callS (As := [.long (Int32.toInt64 x6), .long 24, .int v2]) (rest := []) (st1 := [.long x7]) ⟨hx, hb, hml, hown, hts⟩ (kX4_leastTerms l G ρ (Int32.toInt64 x6) 24 v2 _ h7) (cu_S hts tw_2_185 tw_2_183 tw_2_184 tw_1_10 hdX4_leastTerms rfl rfl ⟨Nat.le_of_ble_eq_true rfl, Nat.le_of_ble_eq_true rfl⟩) hK hR rfl hl.1 rfl (Nat.le_of_ble_eq_true rfl) dX9_mean_31 ⟨Nat.zero_le _, Nat.zero_le _⟩ rfl ?_
      exact hret _ _ _ dX9_mean_34 hf
    · replace hf := (if_pos c4).symm.trans hf
      exact J14 ls hf (lv_sub hl [] rfl)
/-! BrickedUpAsBlind.hidden()I -/
def fX9_hidden (ρ : Rho) (v0 : Nat) : Option (Int32 × Rho) :=
    (gR ρ 2 v0 2).bind fun x1 =>
    (gR ρ 2 v0 0).bind fun x2 =>
    (ckO ρ 0 x1).bind fun x3 =>
    (fX0_become ρ x1 x2).bind fun x4 =>
    (gR x4 2 v0 0).bind fun x5 =>
    (gR x4 2 v0 2).bind fun x6 =>
    (fX2_mostStopped x4 x5 x6).bind fun x7 =>
    some (x7.1, x7.2)
abbrev rX9_hidden : Room := { frames := 6, cells := 0, slots := 0, locals := 138 }
theorem hdX9_hidden : hdP yX9_hidden 0 := by unfold hdP; decide +kernel
set_option maxHeartbeats 4000000 in
set_option maxRecDepth 100000 in
theorem kX9_hidden (l : Launch) (G : GD) (ρ : Rho) (v0 : Nat) (r0 : Int32) (ρ1 : Rho) (hf : fX9_hidden ρ v0 = some (r0, ρ1)) : WM l G yX9_hidden (Cond.code yX9_hidden cX9_hidden 1 (some .int) :: LW) rX9_hidden ρ [.ref v0] (some (.int r0)) ρ1 := by
  obtain ⟨r, hr⟩ : ∃ r, r = (r0, ρ1) := ⟨_, rfl⟩
  rw [← hr] at hf
  refine WM.ofI (own := RX9) (r := r) hr (by decide) rfl (Nat.le_of_ble_eq_true rfl) ?_
  intro p e s m args below meth c H locs Q hx hb hml hown hts hK hR hS hret ls hl
  obtain ⟨ρ0, hρ0⟩ : ∃ z, z = ρ := ⟨_, rfl⟩
  rw [← hρ0] at hret
  replace hS : WS ρ0 s.heap ρ H locs := hρ0 ▸ hS
  replace hl : lv_has ls 1 [(0, .ref v0)] := hl
  unfold fX9_hidden at hf
  refine lv_aload_n hx hb dX9_hidden_0 rfl (lv_at hl 0 rfl) ?_
  obtain ⟨x1, h1, hf⟩ := Option.bind_eq_some_iff.mp hf
  refine r_gR hx hb hts inX9 hown hK hR rfl 2 (by decide) (hts _ tw_1_134) h1 dX9_hidden_1 ?_
  refine lv_aload_n hx hb dX9_hidden_4 rfl (lv_at hl 0 rfl) ?_
  obtain ⟨x2, h2, hf⟩ := Option.bind_eq_some_iff.mp hf
  refine r_gR hx hb hts inX9 hown hK hR rfl 0 (by decide) (hts _ tw_1_132) h2 dX9_hidden_5 ?_
  obtain ⟨x3, h3, hf⟩ := Option.bind_eq_some_iff.mp hf
  obtain ⟨x4, h4, hf⟩ := Option.bind_eq_some_iff.mp hf
  refine w_callV (As := [.ref x2]) (rest := []) (st1 := []) ⟨hx, hb, hml, hown, hts⟩ (kX0_become l G ρ x1 x2 _ h4) (cu_V hts tw_1_178 tw_1_175 tw_1_176 tw_1_177 tw_1_2 hdX0_become rfl rfl ⟨Nat.le_of_ble_eq_true rfl, Nat.le_of_ble_eq_true rfl⟩) hK hR hS rfl h3 rfl hl.1 rfl (Nat.le_of_ble_eq_true rfl) dX9_hidden_8 ⟨Nat.zero_le _, Nat.zero_le _⟩ rfl (fun H locs hR hS => ?_)
  refine lv_aload_n hx hb dX9_hidden_11 rfl (lv_at hl 0 rfl) ?_
  obtain ⟨x5, h5, hf⟩ := Option.bind_eq_some_iff.mp hf
  refine r_gR hx hb hts inX9 hown hK hR rfl 0 (by decide) (hts _ tw_1_132) h5 dX9_hidden_12 ?_
  refine lv_aload_n hx hb dX9_hidden_15 rfl (lv_at hl 0 rfl) ?_
  obtain ⟨x6, h6, hf⟩ := Option.bind_eq_some_iff.mp hf
  refine r_gR hx hb hts inX9 hown hK hR rfl 2 (by decide) (hts _ tw_1_134) h6 dX9_hidden_16 ?_
  obtain ⟨x7, h7, hf⟩ := Option.bind_eq_some_iff.mp hf
  refine w_callS (As := [.ref x5, .ref x6]) (rest := []) (st1 := [.int x7.1]) ⟨hx, hb, hml, hown, hts⟩ (kX2_mostStopped l G x4 x5 x6 _ _ h7) (cu_S hts tw_2_195 tw_2_193 tw_2_194 tw_1_9 hdX2_mostStopped rfl rfl ⟨Nat.le_of_ble_eq_true rfl, Nat.le_of_ble_eq_true rfl⟩) hK hR hS rfl hl.1 rfl (Nat.le_of_ble_eq_true rfl) dX9_hidden_19 ⟨Nat.zero_le _, Nat.zero_le _⟩ rfl (fun H locs hR hS => ?_)
  exact hret _ _ _ _ _ _ dX9_hidden_22 hR hS hf
/-! BrickedUpAsBlind.mostMoving(I)I -/
def fX9_mostMoving (ρ : Rho) (v0 : Nat) (v1 : Int32) : Option Int32 :=
    (fX9_isZeroOrOne ρ v1).bind fun x1 =>
    if x1 = 0 then (some (-1))
    else ((gR ρ 2 v0 0).bind fun x3 =>
    (fX8_liveliestHour ρ x3).bind fun x4 =>
    if v1 = 0 then (some x4)
    else ((gR ρ 2 v0 0).bind fun x6 =>
    (ckO ρ 0 x6).bind fun x7 =>
    (fX0_movingAt ρ x6 x4).bind fun x8 =>
    some x8))
abbrev rX9_mostMoving : Room := { frames := 4, cells := 0, slots := 0, locals := 90 }
theorem hdX9_mostMoving : hdP yX9_mostMoving 1 := by unfold hdP; decide +kernel
set_option maxHeartbeats 4000000 in
set_option maxRecDepth 100000 in
theorem kX9_mostMoving (l : Launch) (G : GD) (ρ : Rho) (v0 : Nat) (v1 : Int32) (r : Int32) (hf : fX9_mostMoving ρ v0 v1 = some r) : RM l G yX9_mostMoving (Cond.code yX9_mostMoving cX9_mostMoving 3 (some .int) :: LW) rX9_mostMoving ρ [.ref v0, .int v1] (some (.int r)) := by
  refine RM.ofI (own := RX9) (by decide) rfl (Nat.le_of_ble_eq_true rfl) ?_
  intro p e s m args below meth c H locs Q hx hb hml hown hts hK hR hret ls hl
  replace hl : lv_has ls 3 [(0, .ref v0), (1, .int v1)] := hl
  unfold fX9_mostMoving at hf
  refine lv_iload_n hx hb dX9_mostMoving_0 rfl (lv_at hl 1 rfl) ?_
  obtain ⟨x1, h1, hf⟩ := Option.bind_eq_some_iff.mp hf
  refine r_callS (As := [.int v1]) (rest := []) (st1 := [.int x1]) ⟨hx, hb, hml, hown, hts⟩ (kX9_isZeroOrOne l G ρ v1 _ h1) (cu_S hts tw_2_121 tw_2_119 tw_2_120 tw_1_1 hdX9_isZeroOrOne rfl rfl ⟨Nat.le_of_ble_eq_true rfl, Nat.le_of_ble_eq_true rfl⟩) hK hR rfl hl.1 rfl (Nat.le_of_ble_eq_true rfl) dX9_mostMoving_1 ⟨Nat.zero_le _, Nat.zero_le _⟩ rfl ?_
  refine lv_if_ne (tgt := 9) hx hb dX9_mostMoving_4 (by decide) (fun c2 => ?_) (fun c2 => ?_)
  · replace hf := (if_neg c2).symm.trans hf
    refine lv_aload_n hx hb dX9_mostMoving_9 rfl (lv_at hl 0 rfl) ?_
    obtain ⟨x3, h3, hf⟩ := Option.bind_eq_some_iff.mp hf
    refine r_gR hx hb hts inX9 hown hK hR rfl 0 (by decide) (hts _ tw_1_132) h3 dX9_mostMoving_10 ?_
    obtain ⟨x4, h4, hf⟩ := Option.bind_eq_some_iff.mp hf
    refine r_callS (As := [.ref x3]) (rest := []) (st1 := [.int x4]) ⟨hx, hb, hml, hown, hts⟩ (kX8_liveliestHour l G ρ x3 _ h4) (cu_S hts tw_2_233 tw_2_231 tw_2_232 tw_1_12 hdX8_liveliestHour rfl rfl ⟨Nat.le_of_ble_eq_true rfl, Nat.le_of_ble_eq_true rfl⟩) hK hR rfl hl.1 rfl (Nat.le_of_ble_eq_true rfl) dX9_mostMoving_13 ⟨Nat.zero_le _, Nat.zero_le _⟩ rfl ?_
    refine lv_istore_n (lv' := [(2, .int x4), (0, .ref v0), (1, .int v1)]) hx hb dX9_mostMoving_16 rfl hl (by decide) rfl (fun ls hl => ?_)
    refine lv_iload_n hx hb dX9_mostMoving_17 rfl (lv_at hl 2 rfl) ?_
    refine lv_if_ne (tgt := 25) hx hb dX9_mostMoving_18 (by decide) (fun c5 => ?_) (fun c5 => ?_)
    · replace hf := (if_neg c5).symm.trans hf
      refine lv_aload_n hx hb dX9_mostMoving_25 rfl (lv_at hl 1 rfl) ?_
      obtain ⟨x6, h6, hf⟩ := Option.bind_eq_some_iff.mp hf
      refine r_gR hx hb hts inX9 hown hK hR rfl 0 (by decide) (hts _ tw_1_132) h6 dX9_mostMoving_26 ?_
      refine lv_iload_n hx hb dX9_mostMoving_29 rfl (lv_at hl 0 rfl) ?_
      obtain ⟨x7, h7, hf⟩ := Option.bind_eq_some_iff.mp hf
      obtain ⟨x8, h8, hf⟩ := Option.bind_eq_some_iff.mp hf
      refine r_callV (As := [.int x4]) (rest := []) (st1 := [.int x8]) ⟨hx, hb, hml, hown, hts⟩ (kX0_movingAt l G ρ x6 x4 _ h8) (cu_V hts tw_2_237 tw_2_238 tw_2_235 tw_2_236 tw_1_2 hdX0_movingAt rfl rfl ⟨Nat.le_of_ble_eq_true rfl, Nat.le_of_ble_eq_true rfl⟩) hK hR rfl h7 rfl hl.1 rfl (Nat.le_of_ble_eq_true rfl) dX9_mostMoving_30 ⟨Nat.zero_le _, Nat.zero_le _⟩ rfl ?_
      exact hret _ _ _ dX9_mostMoving_33 hf
    · replace hf := (if_pos c5).symm.trans hf
      refine lv_iload_n hx hb dX9_mostMoving_21 rfl (lv_at hl 0 rfl) ?_
      refine lv_goto (tgt := 33) hx hb dX9_mostMoving_22 (by decide) ?_
      exact hret _ _ _ dX9_mostMoving_33 hf
  · replace hf := (if_pos c2).symm.trans hf
    refine lv_iconst (v := (-1)) hx hb dX9_mostMoving_7 (by decide) ?_
    exact hret _ _ _ dX9_mostMoving_8 hf
/-! BrickedUpAsBlind.taken(I)I -/
def fX9_taken (ρ : Rho) (v0 : Nat) (v1 : Int32) : Option Int32 :=
    (fX0_isWithin ρ v1 0 20).bind fun x1 =>
    if x1 = 0 then (some (-1))
    else ((gR ρ 2 v0 0).bind fun x3 =>
    (fX8_takenForTrue ρ x3 v1).bind fun x4 =>
    some x4)
abbrev rX9_taken : Room := { frames := 5, cells := 0, slots := 0, locals := 155 }
theorem hdX9_taken : hdP yX9_taken 1 := by unfold hdP; decide +kernel
set_option maxHeartbeats 4000000 in
set_option maxRecDepth 100000 in
theorem kX9_taken (l : Launch) (G : GD) (ρ : Rho) (v0 : Nat) (v1 : Int32) (r : Int32) (hf : fX9_taken ρ v0 v1 = some r) : RM l G yX9_taken (Cond.code yX9_taken cX9_taken 2 (some .int) :: LW) rX9_taken ρ [.ref v0, .int v1] (some (.int r)) := by
  refine RM.ofI (own := RX9) (by decide) rfl (Nat.le_of_ble_eq_true rfl) ?_
  intro p e s m args below meth c H locs Q hx hb hml hown hts hK hR hret ls hl
  replace hl : lv_has ls 2 [(0, .ref v0), (1, .int v1)] := hl
  unfold fX9_taken at hf
  refine lv_iload_n hx hb dX9_taken_0 rfl (lv_at hl 1 rfl) ?_
  refine lv_iconst (v := 0) hx hb dX9_taken_1 (by decide) ?_
  refine lv_bipush (v := 20) hx hb dX9_taken_2 (by decide) ?_
  obtain ⟨x1, h1, hf⟩ := Option.bind_eq_some_iff.mp hf
  refine r_callS (As := [.int v1, .int 0, .int 20]) (rest := []) (st1 := [.int x1]) ⟨hx, hb, hml, hown, hts⟩ (kX0_isWithin l G ρ v1 0 20 _ h1) (cu_S hts tw_1_206 tw_3_3 tw_1_205 tw_1_2 hdX0_isWithin rfl rfl ⟨Nat.le_of_ble_eq_true rfl, Nat.le_of_ble_eq_true rfl⟩) hK hR rfl hl.1 rfl (Nat.le_of_ble_eq_true rfl) dX9_taken_4 ⟨Nat.zero_le _, Nat.zero_le _⟩ rfl ?_
  refine lv_if_ne (tgt := 12) hx hb dX9_taken_7 (by decide) (fun c2 => ?_) (fun c2 => ?_)
  · replace hf := (if_neg c2).symm.trans hf
    refine lv_aload_n hx hb dX9_taken_12 rfl (lv_at hl 0 rfl) ?_
    obtain ⟨x3, h3, hf⟩ := Option.bind_eq_some_iff.mp hf
    refine r_gR hx hb hts inX9 hown hK hR rfl 0 (by decide) (hts _ tw_1_132) h3 dX9_taken_13 ?_
    refine lv_iload_n hx hb dX9_taken_16 rfl (lv_at hl 1 rfl) ?_
    obtain ⟨x4, h4, hf⟩ := Option.bind_eq_some_iff.mp hf
    refine r_callS (As := [.ref x3, .int v1]) (rest := []) (st1 := [.int x4]) ⟨hx, hb, hml, hown, hts⟩ (kX8_takenForTrue l G ρ x3 v1 _ h4) (cu_S hts tw_3_6 tw_3_4 tw_3_5 tw_1_12 hdX8_takenForTrue rfl rfl ⟨Nat.le_of_ble_eq_true rfl, Nat.le_of_ble_eq_true rfl⟩) hK hR rfl hl.1 rfl (Nat.le_of_ble_eq_true rfl) dX9_taken_17 ⟨Nat.zero_le _, Nat.zero_le _⟩ rfl ?_
    exact hret _ _ _ dX9_taken_20 hf
  · replace hf := (if_pos c2).symm.trans hf
    refine lv_iconst (v := (-1)) hx hb dX9_taken_10 (by decide) ?_
    exact hret _ _ _ dX9_taken_11 hf
/-! BrickedUpAsBlind.bestHour(I)I -/
def fX9_bestHour (ρ : Rho) (v0 : Nat) (v1 : Int32) : Option Int32 :=
    (gR ρ 2 v0 0).bind fun x1 =>
    (ckO ρ 0 x1).bind fun x2 =>
    (fX0_isWindow ρ x1 v1).bind fun x3 =>
    if x3 = 0 then (some (-1))
    else ((gR ρ 2 v0 0).bind fun x5 =>
    (fX8_seemingHour ρ x5 v1).bind fun x6 =>
    some x6)
abbrev rX9_bestHour : Room := { frames := 4, cells := 0, slots := 0, locals := 133 }
theorem hdX9_bestHour : hdP yX9_bestHour 1 := by unfold hdP; decide +kernel
set_option maxHeartbeats 4000000 in
set_option maxRecDepth 100000 in
theorem kX9_bestHour (l : Launch) (G : GD) (ρ : Rho) (v0 : Nat) (v1 : Int32) (r : Int32) (hf : fX9_bestHour ρ v0 v1 = some r) : RM l G yX9_bestHour (Cond.code yX9_bestHour cX9_bestHour 2 (some .int) :: LW) rX9_bestHour ρ [.ref v0, .int v1] (some (.int r)) := by
  refine RM.ofI (own := RX9) (by decide) rfl (Nat.le_of_ble_eq_true rfl) ?_
  intro p e s m args below meth c H locs Q hx hb hml hown hts hK hR hret ls hl
  replace hl : lv_has ls 2 [(0, .ref v0), (1, .int v1)] := hl
  unfold fX9_bestHour at hf
  refine lv_aload_n hx hb dX9_bestHour_0 rfl (lv_at hl 0 rfl) ?_
  obtain ⟨x1, h1, hf⟩ := Option.bind_eq_some_iff.mp hf
  refine r_gR hx hb hts inX9 hown hK hR rfl 0 (by decide) (hts _ tw_1_132) h1 dX9_bestHour_1 ?_
  refine lv_iload_n hx hb dX9_bestHour_4 rfl (lv_at hl 1 rfl) ?_
  obtain ⟨x2, h2, hf⟩ := Option.bind_eq_some_iff.mp hf
  obtain ⟨x3, h3, hf⟩ := Option.bind_eq_some_iff.mp hf
  refine r_callV (As := [.int v1]) (rest := []) (st1 := [.int x3]) ⟨hx, hb, hml, hown, hts⟩ (kX0_isWindow l G ρ x1 v1 _ h3) (cu_V hts tw_1_221 tw_2_34 tw_1_219 tw_1_220 tw_1_2 hdX0_isWindow rfl rfl ⟨Nat.le_of_ble_eq_true rfl, Nat.le_of_ble_eq_true rfl⟩) hK hR rfl h2 rfl hl.1 rfl (Nat.le_of_ble_eq_true rfl) dX9_bestHour_5 ⟨Nat.zero_le _, Nat.zero_le _⟩ rfl ?_
  refine lv_if_ne (tgt := 13) hx hb dX9_bestHour_8 (by decide) (fun c4 => ?_) (fun c4 => ?_)
  · replace hf := (if_neg c4).symm.trans hf
    refine lv_aload_n hx hb dX9_bestHour_13 rfl (lv_at hl 0 rfl) ?_
    obtain ⟨x5, h5, hf⟩ := Option.bind_eq_some_iff.mp hf
    refine r_gR hx hb hts inX9 hown hK hR rfl 0 (by decide) (hts _ tw_1_132) h5 dX9_bestHour_14 ?_
    refine lv_iload_n hx hb dX9_bestHour_17 rfl (lv_at hl 1 rfl) ?_
    obtain ⟨x6, h6, hf⟩ := Option.bind_eq_some_iff.mp hf
    refine r_callS (As := [.ref x5, .int v1]) (rest := []) (st1 := [.int x6]) ⟨hx, hb, hml, hown, hts⟩ (kX8_seemingHour l G ρ x5 v1 _ h6) (cu_S hts tw_3_15 tw_3_13 tw_3_14 tw_1_12 hdX8_seemingHour rfl rfl ⟨Nat.le_of_ble_eq_true rfl, Nat.le_of_ble_eq_true rfl⟩) hK hR rfl hl.1 rfl (Nat.le_of_ble_eq_true rfl) dX9_bestHour_18 ⟨Nat.zero_le _, Nat.zero_le _⟩ rfl ?_
    exact hret _ _ _ dX9_bestHour_21 hf
  · replace hf := (if_pos c4).symm.trans hf
    refine lv_iconst (v := (-1)) hx hb dX9_bestHour_11 (by decide) ?_
    exact hret _ _ _ dX9_bestHour_12 hf
/-! BrickedUpAsBlind.suitor(I)I -/
def fX9_suitor (ρ : Rho) (v0 : Nat) (v1 : Int32) : Option Int32 :=
    (fX9_isZeroOrOne ρ v1).bind fun x1 =>
    if x1 = 0 then (some (-1))
    else (if v1 = 0 then ((gR ρ 2 v0 0).bind fun x6 =>
    (gR ρ 2 v0 0).bind fun x7 =>
    (gI ρ 0 x7 7).bind fun x8 =>
    (fX8_addressed ρ x6 x8).bind fun x9 =>
    some x9)
    else ((gR ρ 2 v0 0).bind fun x4 =>
    (fX8_daysToAnother ρ x4).bind fun x5 =>
    some x5))
abbrev rX9_suitor : Room := { frames := 7, cells := 0, slots := 0, locals := 203 }
theorem hdX9_suitor : hdP yX9_suitor 1 := by unfold hdP; decide +kernel
set_option maxHeartbeats 4000000 in
set_option maxRecDepth 100000 in
theorem kX9_suitor (l : Launch) (G : GD) (ρ : Rho) (v0 : Nat) (v1 : Int32) (r : Int32) (hf : fX9_suitor ρ v0 v1 = some r) : RM l G yX9_suitor (Cond.code yX9_suitor cX9_suitor 2 (some .int) :: LW) rX9_suitor ρ [.ref v0, .int v1] (some (.int r)) := by
  refine RM.ofI (own := RX9) (by decide) rfl (Nat.le_of_ble_eq_true rfl) ?_
  intro p e s m args below meth c H locs Q hx hb hml hown hts hK hR hret ls hl
  replace hl : lv_has ls 2 [(0, .ref v0), (1, .int v1)] := hl
  unfold fX9_suitor at hf
  refine lv_iload_n hx hb dX9_suitor_0 rfl (lv_at hl 1 rfl) ?_
  obtain ⟨x1, h1, hf⟩ := Option.bind_eq_some_iff.mp hf
  refine r_callS (As := [.int v1]) (rest := []) (st1 := [.int x1]) ⟨hx, hb, hml, hown, hts⟩ (kX9_isZeroOrOne l G ρ v1 _ h1) (cu_S hts tw_2_121 tw_2_119 tw_2_120 tw_1_1 hdX9_isZeroOrOne rfl rfl ⟨Nat.le_of_ble_eq_true rfl, Nat.le_of_ble_eq_true rfl⟩) hK hR rfl hl.1 rfl (Nat.le_of_ble_eq_true rfl) dX9_suitor_1 ⟨Nat.zero_le _, Nat.zero_le _⟩ rfl ?_
  refine lv_if_ne (tgt := 9) hx hb dX9_suitor_4 (by decide) (fun c2 => ?_) (fun c2 => ?_)
  · replace hf := (if_neg c2).symm.trans hf
    refine lv_iload_n hx hb dX9_suitor_9 rfl (lv_at hl 1 rfl) ?_
    refine lv_if_ne (tgt := 30) hx hb dX9_suitor_10 (by decide) (fun c3 => ?_) (fun c3 => ?_)
    · replace hf := (if_neg c3).symm.trans hf
      refine lv_aload_n hx hb dX9_suitor_30 rfl (lv_at hl 0 rfl) ?_
      obtain ⟨x4, h4, hf⟩ := Option.bind_eq_some_iff.mp hf
      refine r_gR hx hb hts inX9 hown hK hR rfl 0 (by decide) (hts _ tw_1_132) h4 dX9_suitor_31 ?_
      obtain ⟨x5, h5, hf⟩ := Option.bind_eq_some_iff.mp hf
      refine r_callS (As := [.ref x4]) (rest := []) (st1 := [.int x5]) ⟨hx, hb, hml, hown, hts⟩ (kX8_daysToAnother l G ρ x4 _ h5) (cu_S hts tw_3_54 tw_3_52 tw_3_53 tw_1_12 hdX8_daysToAnother rfl rfl ⟨Nat.le_of_ble_eq_true rfl, Nat.le_of_ble_eq_true rfl⟩) hK hR rfl hl.1 rfl (Nat.le_of_ble_eq_true rfl) dX9_suitor_34 ⟨Nat.zero_le _, Nat.zero_le _⟩ rfl ?_
      exact hret _ _ _ dX9_suitor_37 hf
    · replace hf := (if_pos c3).symm.trans hf
      refine lv_aload_n hx hb dX9_suitor_13 rfl (lv_at hl 0 rfl) ?_
      obtain ⟨x6, h6, hf⟩ := Option.bind_eq_some_iff.mp hf
      refine r_gR hx hb hts inX9 hown hK hR rfl 0 (by decide) (hts _ tw_1_132) h6 dX9_suitor_14 ?_
      refine lv_aload_n hx hb dX9_suitor_17 rfl (lv_at hl 0 rfl) ?_
      obtain ⟨x7, h7, hf⟩ := Option.bind_eq_some_iff.mp hf
      refine r_gR hx hb hts inX9 hown hK hR rfl 0 (by decide) (hts _ tw_1_132) h7 dX9_suitor_18 ?_
      obtain ⟨x8, h8, hf⟩ := Option.bind_eq_some_iff.mp hf
      refine r_gI hx hb hts inX0 hown hK hR rfl 7 (by decide) (hts _ tw_1_62) h8 dX9_suitor_21 ?_
      obtain ⟨x9, h9, hf⟩ := Option.bind_eq_some_iff.mp hf
      refine r_callS (As := [.ref x6, .int x8]) (rest := []) (st1 := [.int x9]) ⟨hx, hb, hml, hown, hts⟩ (kX8_addressed l G ρ x6 x8 _ h9) (cu_S hts tw_3_48 tw_3_46 tw_3_47 tw_1_12 hdX8_addressed rfl rfl ⟨Nat.le_of_ble_eq_true rfl, Nat.le_of_ble_eq_true rfl⟩) hK hR rfl hl.1 rfl (Nat.le_of_ble_eq_true rfl) dX9_suitor_24 ⟨Nat.zero_le _, Nat.zero_le _⟩ rfl ?_
      refine lv_goto (tgt := 37) hx hb dX9_suitor_27 (by decide) ?_
      exact hret _ _ _ dX9_suitor_37 hf
  · replace hf := (if_pos c2).symm.trans hf
    refine lv_iconst (v := (-1)) hx hb dX9_suitor_7 (by decide) ?_
    exact hret _ _ _ dX9_suitor_8 hf
/-! BrickedUpAsBlind.twins(I)I -/
def fX9_twins (ρ : Rho) (v0 : Nat) (v1 : Int32) : Option Int32 :=
    (fX9_isZeroOrOne ρ v1).bind fun x1 =>
    if x1 = 0 then (some (-1))
    else (if v1 = 0 then ((gR ρ 2 v0 0).bind fun x6 =>
    (fX8_twinPairs ρ x6).bind fun x7 =>
    some x7)
    else ((gR ρ 2 v0 0).bind fun x4 =>
    (fX8_firstTwins ρ x4).bind fun x5 =>
    some x5))
abbrev rX9_twins : Room := { frames := 4, cells := 0, slots := 0, locals := 91 }
theorem hdX9_twins : hdP yX9_twins 1 := by unfold hdP; decide +kernel
set_option maxHeartbeats 4000000 in
set_option maxRecDepth 100000 in
theorem kX9_twins (l : Launch) (G : GD) (ρ : Rho) (v0 : Nat) (v1 : Int32) (r : Int32) (hf : fX9_twins ρ v0 v1 = some r) : RM l G yX9_twins (Cond.code yX9_twins cX9_twins 2 (some .int) :: LW) rX9_twins ρ [.ref v0, .int v1] (some (.int r)) := by
  refine RM.ofI (own := RX9) (by decide) rfl (Nat.le_of_ble_eq_true rfl) ?_
  intro p e s m args below meth c H locs Q hx hb hml hown hts hK hR hret ls hl
  replace hl : lv_has ls 2 [(0, .ref v0), (1, .int v1)] := hl
  unfold fX9_twins at hf
  refine lv_iload_n hx hb dX9_twins_0 rfl (lv_at hl 1 rfl) ?_
  obtain ⟨x1, h1, hf⟩ := Option.bind_eq_some_iff.mp hf
  refine r_callS (As := [.int v1]) (rest := []) (st1 := [.int x1]) ⟨hx, hb, hml, hown, hts⟩ (kX9_isZeroOrOne l G ρ v1 _ h1) (cu_S hts tw_2_121 tw_2_119 tw_2_120 tw_1_1 hdX9_isZeroOrOne rfl rfl ⟨Nat.le_of_ble_eq_true rfl, Nat.le_of_ble_eq_true rfl⟩) hK hR rfl hl.1 rfl (Nat.le_of_ble_eq_true rfl) dX9_twins_1 ⟨Nat.zero_le _, Nat.zero_le _⟩ rfl ?_
  refine lv_if_ne (tgt := 9) hx hb dX9_twins_4 (by decide) (fun c2 => ?_) (fun c2 => ?_)
  · replace hf := (if_neg c2).symm.trans hf
    refine lv_iload_n hx hb dX9_twins_9 rfl (lv_at hl 1 rfl) ?_
    refine lv_if_ne (tgt := 23) hx hb dX9_twins_10 (by decide) (fun c3 => ?_) (fun c3 => ?_)
    · replace hf := (if_neg c3).symm.trans hf
      refine lv_aload_n hx hb dX9_twins_23 rfl (lv_at hl 0 rfl) ?_
      obtain ⟨x4, h4, hf⟩ := Option.bind_eq_some_iff.mp hf
      refine r_gR hx hb hts inX9 hown hK hR rfl 0 (by decide) (hts _ tw_1_132) h4 dX9_twins_24 ?_
      obtain ⟨x5, h5, hf⟩ := Option.bind_eq_some_iff.mp hf
      refine r_callS (As := [.ref x4]) (rest := []) (st1 := [.int x5]) ⟨hx, hb, hml, hown, hts⟩ (kX8_firstTwins l G ρ x4 _ h5) (cu_S hts tw_3_68 tw_3_66 tw_3_67 tw_1_12 hdX8_firstTwins rfl rfl ⟨Nat.le_of_ble_eq_true rfl, Nat.le_of_ble_eq_true rfl⟩) hK hR rfl hl.1 rfl (Nat.le_of_ble_eq_true rfl) dX9_twins_27 ⟨Nat.zero_le _, Nat.zero_le _⟩ rfl ?_
      exact hret _ _ _ dX9_twins_30 hf
    · replace hf := (if_pos c3).symm.trans hf
      refine lv_aload_n hx hb dX9_twins_13 rfl (lv_at hl 0 rfl) ?_
      obtain ⟨x6, h6, hf⟩ := Option.bind_eq_some_iff.mp hf
      refine r_gR hx hb hts inX9 hown hK hR rfl 0 (by decide) (hts _ tw_1_132) h6 dX9_twins_14 ?_
      obtain ⟨x7, h7, hf⟩ := Option.bind_eq_some_iff.mp hf
      refine r_callS (As := [.ref x6]) (rest := []) (st1 := [.int x7]) ⟨hx, hb, hml, hown, hts⟩ (kX8_twinPairs l G ρ x6 _ h7) (cu_S hts tw_3_62 tw_3_60 tw_3_61 tw_1_12 hdX8_twinPairs rfl rfl ⟨Nat.le_of_ble_eq_true rfl, Nat.le_of_ble_eq_true rfl⟩) hK hR rfl hl.1 rfl (Nat.le_of_ble_eq_true rfl) dX9_twins_17 ⟨Nat.zero_le _, Nat.zero_le _⟩ rfl ?_
      refine lv_goto (tgt := 30) hx hb dX9_twins_20 (by decide) ?_
      exact hret _ _ _ dX9_twins_30 hf
  · replace hf := (if_pos c2).symm.trans hf
    refine lv_iconst (v := (-1)) hx hb dX9_twins_7 (by decide) ?_
    exact hret _ _ _ dX9_twins_8 hf
/-! BrickedUpAsBlind.whatWas(IIII)I -/
def fX9_whatWas (ρ : Rho) (v0 : Nat) (v1 : Int32) (v2 : Int32) (v3 : Int32) (v4 : Int32) : Option Int32 :=
    (fX9_isShelf ρ v1).bind fun x1 =>
    if x1 = 0 then (some (-1))
    else ((fX1_isFigure ρ v2).bind fun x3 =>
    if x3 = 0 then (some (-1))
    else ((fX0_isHour ρ v3).bind fun x5 =>
    if x5 = 0 then (some (-1))
    else ((fX9_isZeroOrOne ρ v4).bind fun x7 =>
    if x7 = 0 then (some (-1))
    else ((gR ρ 2 v0 3).bind fun x9 =>
    (ldR ρ x9 v1).bind fun x10 =>
    (ckO ρ 1 x10).bind fun x11 =>
    (fX6_refusalAsRow ρ x10).bind fun x12 =>
    if (0 : Int32) ≤ x12 then ((gI ρ 1 x10 4).bind fun x14 =>
    if x14 ≤ 24 then ((fX2_kindsThatShine ρ x10 v2 v3).bind fun x16 =>
    if v4 = 0 then (some x16)
    else ((fJ6_bitCount ρ x16).bind fun x18 =>
    some x18))
    else (some (-13)))
    else (some x12)))))
abbrev rX9_whatWas : Room := { frames := 3, cells := 0, slots := 0, locals := 72 }
theorem hdX9_whatWas : hdP yX9_whatWas 4 := by unfold hdP; decide +kernel
set_option maxHeartbeats 4000000 in
set_option maxRecDepth 100000 in
theorem kX9_whatWas (l : Launch) (G : GD) (ρ : Rho) (v0 : Nat) (v1 : Int32) (v2 : Int32) (v3 : Int32) (v4 : Int32) (r : Int32) (hf : fX9_whatWas ρ v0 v1 v2 v3 v4 = some r) : RM l G yX9_whatWas (Cond.code yX9_whatWas cX9_whatWas 8 (some .int) :: LW) rX9_whatWas ρ [.ref v0, .int v1, .int v2, .int v3, .int v4] (some (.int r)) := by
  refine RM.ofI (own := RX9) (by decide) rfl (Nat.le_of_ble_eq_true rfl) ?_
  intro p e s m args below meth c H locs Q hx hb hml hown hts hK hR hret ls hl
  replace hl : lv_has ls 8 [(0, .ref v0), (1, .int v1), (2, .int v2), (3, .int v3), (4, .int v4)] := hl
  unfold fX9_whatWas at hf
  refine lv_iload_n hx hb dX9_whatWas_0 rfl (lv_at hl 1 rfl) ?_
  obtain ⟨x1, h1, hf⟩ := Option.bind_eq_some_iff.mp hf
  refine r_callS (As := [.int v1]) (rest := []) (st1 := [.int x1]) ⟨hx, hb, hml, hown, hts⟩ (kX9_isShelf l G ρ v1 _ h1) (cu_S hts tw_1_154 tw_1_152 tw_1_153 tw_1_1 hdX9_isShelf rfl rfl ⟨Nat.le_of_ble_eq_true rfl, Nat.le_of_ble_eq_true rfl⟩) hK hR rfl hl.1 rfl (Nat.le_of_ble_eq_true rfl) dX9_whatWas_1 ⟨Nat.zero_le _, Nat.zero_le _⟩ rfl ?_
  refine lv_if_eq (tgt := 29) hx hb dX9_whatWas_4 (by decide) (fun c2 => ?_) (fun c2 => ?_)
  · replace hf := (if_pos c2).symm.trans hf
    refine lv_iconst (v := (-1)) hx hb dX9_whatWas_29 (by decide) ?_
    exact hret _ _ _ dX9_whatWas_30 hf
  · replace hf := (if_neg c2).symm.trans hf
    refine lv_iload_n hx hb dX9_whatWas_7 rfl (lv_at hl 2 rfl) ?_
    obtain ⟨x3, h3, hf⟩ := Option.bind_eq_some_iff.mp hf
    refine r_callS (As := [.int v2]) (rest := []) (st1 := [.int x3]) ⟨hx, hb, hml, hown, hts⟩ (kX1_isFigure l G ρ v2 _ h3) (cu_S hts tw_1_200 tw_3_73 tw_1_199 tw_1_7 hdX1_isFigure rfl rfl ⟨Nat.le_of_ble_eq_true rfl, Nat.le_of_ble_eq_true rfl⟩) hK hR rfl hl.1 rfl (Nat.le_of_ble_eq_true rfl) dX9_whatWas_8 ⟨Nat.zero_le _, Nat.zero_le _⟩ rfl ?_
    refine lv_if_eq (tgt := 29) hx hb dX9_whatWas_11 (by decide) (fun c4 => ?_) (fun c4 => ?_)
    · replace hf := (if_pos c4).symm.trans hf
      refine lv_iconst (v := (-1)) hx hb dX9_whatWas_29 (by decide) ?_
      exact hret _ _ _ dX9_whatWas_30 hf
    · replace hf := (if_neg c4).symm.trans hf
      refine lv_iload_n hx hb dX9_whatWas_14 rfl (lv_at hl 3 rfl) ?_
      obtain ⟨x5, h5, hf⟩ := Option.bind_eq_some_iff.mp hf
      refine r_callS (As := [.int v3]) (rest := []) (st1 := [.int x5]) ⟨hx, hb, hml, hown, hts⟩ (kX0_isHour l G ρ v3 _ h5) (cu_S hts tw_1_209 tw_2_41 tw_1_208 tw_1_2 hdX0_isHour rfl rfl ⟨Nat.le_of_ble_eq_true rfl, Nat.le_of_ble_eq_true rfl⟩) hK hR rfl hl.1 rfl (Nat.le_of_ble_eq_true rfl) dX9_whatWas_15 ⟨Nat.zero_le _, Nat.zero_le _⟩ rfl ?_
      refine lv_if_eq (tgt := 29) hx hb dX9_whatWas_18 (by decide) (fun c6 => ?_) (fun c6 => ?_)
      · replace hf := (if_pos c6).symm.trans hf
        refine lv_iconst (v := (-1)) hx hb dX9_whatWas_29 (by decide) ?_
        exact hret _ _ _ dX9_whatWas_30 hf
      · replace hf := (if_neg c6).symm.trans hf
        refine lv_iload hx hb dX9_whatWas_21 (lv_at hl 4 rfl) ?_
        obtain ⟨x7, h7, hf⟩ := Option.bind_eq_some_iff.mp hf
        refine r_callS (As := [.int v4]) (rest := []) (st1 := [.int x7]) ⟨hx, hb, hml, hown, hts⟩ (kX9_isZeroOrOne l G ρ v4 _ h7) (cu_S hts tw_2_121 tw_2_119 tw_2_120 tw_1_1 hdX9_isZeroOrOne rfl rfl ⟨Nat.le_of_ble_eq_true rfl, Nat.le_of_ble_eq_true rfl⟩) hK hR rfl hl.1 rfl (Nat.le_of_ble_eq_true rfl) dX9_whatWas_23 ⟨Nat.zero_le _, Nat.zero_le _⟩ rfl ?_
        refine lv_if_ne (tgt := 31) hx hb dX9_whatWas_26 (by decide) (fun c8 => ?_) (fun c8 => ?_)
        · replace hf := (if_neg c8).symm.trans hf
          refine lv_aload_n hx hb dX9_whatWas_31 rfl (lv_at hl 0 rfl) ?_
          obtain ⟨x9, h9, hf⟩ := Option.bind_eq_some_iff.mp hf
          refine r_gR hx hb hts inX9 hown hK hR rfl 3 (by decide) (hts _ tw_1_135) h9 dX9_whatWas_32 ?_
          refine lv_iload_n hx hb dX9_whatWas_35 rfl (lv_at hl 1 rfl) ?_
          obtain ⟨x10, h10, hf⟩ := Option.bind_eq_some_iff.mp hf
          refine r_ldR hx hb hK hR h10 dX9_whatWas_36 ?_
          refine lv_astore (lv' := [(5, .ref x10), (0, .ref v0), (1, .int v1), (2, .int v2), (3, .int v3), (4, .int v4)]) hx hb dX9_whatWas_37 hl (by decide) rfl (fun ls hl => ?_)
          refine lv_aload hx hb dX9_whatWas_39 (lv_at hl 0 rfl) ?_
          obtain ⟨x11, h11, hf⟩ := Option.bind_eq_some_iff.mp hf
          obtain ⟨x12, h12, hf⟩ := Option.bind_eq_some_iff.mp hf
          refine r_callV (As := []) (rest := []) (st1 := [.int x12]) ⟨hx, hb, hml, hown, hts⟩ (kX6_refusalAsRow l G ρ x10 _ h12) (cu_V hts tw_1_158 tw_1_155 tw_1_156 tw_1_157 tw_1_3 hdX6_refusalAsRow rfl rfl ⟨Nat.le_of_ble_eq_true rfl, Nat.le_of_ble_eq_true rfl⟩) hK hR rfl h11 rfl hl.1 rfl (Nat.le_of_ble_eq_true rfl) dX9_whatWas_41 ⟨Nat.zero_le _, Nat.zero_le _⟩ rfl ?_
          refine lv_istore (lv' := [(6, .int x12), (5, .ref x10), (0, .ref v0), (1, .int v1), (2, .int v2), (3, .int v3), (4, .int v4)]) hx hb dX9_whatWas_44 hl (by decide) rfl (fun ls hl => ?_)
          refine lv_iload hx hb dX9_whatWas_46 (lv_at hl 0 rfl) ?_
          refine lv_if_ge (tgt := 54) hx hb dX9_whatWas_48 (by decide) (fun c13 => ?_) (fun c13 => ?_)
          · replace hf := (if_pos c13).symm.trans hf
            refine lv_aload hx hb dX9_whatWas_54 (lv_at hl 1 rfl) ?_
            obtain ⟨x14, h14, hf⟩ := Option.bind_eq_some_iff.mp hf
            refine r_gI hx hb hts inX6 hown hK hR rfl 4 (by decide) (hts _ tw_1_113) h14 dX9_whatWas_56 ?_
            refine lv_bipush (v := 24) hx hb dX9_whatWas_59 (by decide) ?_
            refine lv_icmp_le (tgt := 67) hx hb dX9_whatWas_61 (by decide) (fun c15 => ?_) (fun c15 => ?_)
            · replace hf := (if_pos c15).symm.trans hf
              refine lv_aload hx hb dX9_whatWas_67 (lv_at hl 1 rfl) ?_
              refine lv_iload_n hx hb dX9_whatWas_69 rfl (lv_at hl 4 rfl) ?_
              refine lv_iload_n hx hb dX9_whatWas_70 rfl (lv_at hl 5 rfl) ?_
              obtain ⟨x16, h16, hf⟩ := Option.bind_eq_some_iff.mp hf
              refine r_callS (As := [.ref x10, .int v2, .int v3]) (rest := []) (st1 := [.int x16]) ⟨hx, hb, hml, hown, hts⟩ (kX2_kindsThatShine l G ρ x10 v2 v3 _ h16) (cu_S hts tw_3_76 tw_3_74 tw_3_75 tw_1_9 hdX2_kindsThatShine rfl rfl ⟨Nat.le_of_ble_eq_true rfl, Nat.le_of_ble_eq_true rfl⟩) hK hR rfl hl.1 rfl (Nat.le_of_ble_eq_true rfl) dX9_whatWas_71 ⟨Nat.zero_le _, Nat.zero_le _⟩ rfl ?_
              refine lv_istore (lv' := [(7, .int x16), (6, .int x12), (5, .ref x10), (0, .ref v0), (1, .int v1), (2, .int v2), (3, .int v3), (4, .int v4)]) hx hb dX9_whatWas_74 hl (by decide) rfl (fun ls hl => ?_)
              refine lv_iload hx hb dX9_whatWas_76 (lv_at hl 7 rfl) ?_
              refine lv_if_ne (tgt := 86) hx hb dX9_whatWas_78 (by decide) (fun c17 => ?_) (fun c17 => ?_)
              · replace hf := (if_neg c17).symm.trans hf
                refine lv_iload hx hb dX9_whatWas_86 (lv_at hl 0 rfl) ?_
                obtain ⟨x18, h18, hf⟩ := Option.bind_eq_some_iff.mp hf
                refine r_callS (As := [.int x16]) (rest := []) (st1 := [.int x18]) ⟨hx, hb, hml, hown, hts⟩ (kJ6_bitCount l G ρ x16 _ h18) (cu_S hts tw_2_198 tw_3_87 tw_2_197 tw_1_11 hdJ6_bitCount rfl rfl ⟨Nat.le_of_ble_eq_true rfl, Nat.le_of_ble_eq_true rfl⟩) hK hR rfl hl.1 rfl (Nat.le_of_ble_eq_true rfl) dX9_whatWas_88 ⟨Nat.zero_le _, Nat.zero_le _⟩ rfl ?_
                exact hret _ _ _ dX9_whatWas_91 hf
              · replace hf := (if_pos c17).symm.trans hf
                refine lv_iload hx hb dX9_whatWas_81 (lv_at hl 0 rfl) ?_
                refine lv_goto (tgt := 91) hx hb dX9_whatWas_83 (by decide) ?_
                exact hret _ _ _ dX9_whatWas_91 hf
            · replace hf := (if_neg c15).symm.trans hf
              refine lv_bipush (v := (-13)) hx hb dX9_whatWas_64 (by decide) ?_
              exact hret _ _ _ dX9_whatWas_66 hf
          · replace hf := (if_neg c13).symm.trans hf
            refine lv_iload hx hb dX9_whatWas_51 (lv_at hl 0 rfl) ?_
            exact hret _ _ _ dX9_whatWas_53 hf
        · replace hf := (if_pos c8).symm.trans hf
          refine lv_iconst (v := (-1)) hx hb dX9_whatWas_29 (by decide) ?_
          exact hret _ _ _ dX9_whatWas_30 hf
/-! BrickedUpAsBlind.paidOff(I)I -/
def fX9_paidOff (ρ : Rho) (v0 : Nat) (v1 : Int32) : Option Int32 :=
    (fX0_isPayment ρ v1).bind fun x1 =>
    if x1 = 0 then (some (-1))
    else ((gR ρ 2 v0 0).bind fun x3 =>
    (fX3_yearPaidOff ρ x3 v1).bind fun x4 =>
    some x4)
abbrev rX9_paidOff : Room := { frames := 4, cells := 0, slots := 0, locals := 111 }
theorem hdX9_paidOff : hdP yX9_paidOff 1 := by unfold hdP; decide +kernel
set_option maxHeartbeats 4000000 in
set_option maxRecDepth 100000 in
theorem kX9_paidOff (l : Launch) (G : GD) (ρ : Rho) (v0 : Nat) (v1 : Int32) (r : Int32) (hf : fX9_paidOff ρ v0 v1 = some r) : RM l G yX9_paidOff (Cond.code yX9_paidOff cX9_paidOff 2 (some .int) :: LW) rX9_paidOff ρ [.ref v0, .int v1] (some (.int r)) := by
  refine RM.ofI (own := RX9) (by decide) rfl (Nat.le_of_ble_eq_true rfl) ?_
  intro p e s m args below meth c H locs Q hx hb hml hown hts hK hR hret ls hl
  replace hl : lv_has ls 2 [(0, .ref v0), (1, .int v1)] := hl
  unfold fX9_paidOff at hf
  refine lv_iload_n hx hb dX9_paidOff_0 rfl (lv_at hl 1 rfl) ?_
  obtain ⟨x1, h1, hf⟩ := Option.bind_eq_some_iff.mp hf
  refine r_callS (As := [.int v1]) (rest := []) (st1 := [.int x1]) ⟨hx, hb, hml, hown, hts⟩ (kX0_isPayment l G ρ v1 _ h1) (cu_S hts tw_2_29 tw_3_92 tw_2_28 tw_1_2 hdX0_isPayment rfl rfl ⟨Nat.le_of_ble_eq_true rfl, Nat.le_of_ble_eq_true rfl⟩) hK hR rfl hl.1 rfl (Nat.le_of_ble_eq_true rfl) dX9_paidOff_1 ⟨Nat.zero_le _, Nat.zero_le _⟩ rfl ?_
  refine lv_if_ne (tgt := 9) hx hb dX9_paidOff_4 (by decide) (fun c2 => ?_) (fun c2 => ?_)
  · replace hf := (if_neg c2).symm.trans hf
    refine lv_aload_n hx hb dX9_paidOff_9 rfl (lv_at hl 0 rfl) ?_
    obtain ⟨x3, h3, hf⟩ := Option.bind_eq_some_iff.mp hf
    refine r_gR hx hb hts inX9 hown hK hR rfl 0 (by decide) (hts _ tw_1_132) h3 dX9_paidOff_10 ?_
    refine lv_iload_n hx hb dX9_paidOff_13 rfl (lv_at hl 1 rfl) ?_
    obtain ⟨x4, h4, hf⟩ := Option.bind_eq_some_iff.mp hf
    refine r_callS (As := [.ref x3, .int v1]) (rest := []) (st1 := [.int x4]) ⟨hx, hb, hml, hown, hts⟩ (kX3_yearPaidOff l G ρ x3 v1 _ h4) (cu_S hts tw_3_95 tw_3_93 tw_3_94 tw_1_14 hdX3_yearPaidOff rfl rfl ⟨Nat.le_of_ble_eq_true rfl, Nat.le_of_ble_eq_true rfl⟩) hK hR rfl hl.1 rfl (Nat.le_of_ble_eq_true rfl) dX9_paidOff_14 ⟨Nat.zero_le _, Nat.zero_le _⟩ rfl ?_
    exact hret _ _ _ dX9_paidOff_17 hf
  · replace hf := (if_pos c2).symm.trans hf
    refine lv_iconst (v := (-1)) hx hb dX9_paidOff_7 (by decide) ?_
    exact hret _ _ _ dX9_paidOff_8 hf
/-! BrickedUpAsBlind.rain(IIII)J -/
def fX9_rain_38 (ρ : Rho) : Option Int64 :=
    some 1000000001
def fX9_rain (ρ : Rho) (v0 : Nat) (v1 : Int32) (v2 : Int32) (v3 : Int32) (v4 : Int32) : Option Int64 :=
    (fX0_isWithin ρ v1 2 20).bind fun x1 =>
    if x1 = 0 then (fX9_rain_38 ρ)
    else ((fX0_isWithin ρ v2 0 8).bind fun x3 =>
    if x3 = 0 then (fX9_rain_38 ρ)
    else ((fX0_isWithin ρ v3 0 8).bind fun x5 =>
    if x5 = 0 then (fX9_rain_38 ρ)
    else ((fX9_isZeroOrOne ρ v4).bind fun x7 =>
    if x7 = 0 then (fX9_rain_38 ρ)
    else ((fX4_wetWays ρ v1 v2 v3).bind fun x9 =>
    (fX4_power ρ (Int32.toInt64 v1) v2).bind fun x10 =>
    (fX4_leastTerms ρ x9 x10 v4).bind fun x11 =>
    some x11))))
abbrev rX9_rain : Room := { frames := 2, cells := 0, slots := 0, locals := 56 }
theorem hdX9_rain : hdP yX9_rain 4 := by unfold hdP; decide +kernel
set_option maxHeartbeats 4000000 in
set_option maxRecDepth 100000 in
theorem kX9_rain (l : Launch) (G : GD) (ρ : Rho) (v0 : Nat) (v1 : Int32) (v2 : Int32) (v3 : Int32) (v4 : Int32) (r : Int64) (hf : fX9_rain ρ v0 v1 v2 v3 v4 = some r) : RM l G yX9_rain (Cond.code yX9_rain cX9_rain 5 (some .long) :: LW) rX9_rain ρ [.ref v0, .int v1, .int v2, .int v3, .int v4] (some (.long r)) := by
  refine RM.ofL (own := RX9) (by decide) rfl (Nat.le_of_ble_eq_true rfl) ?_
  intro p e s m args below meth c H locs Q hx hb hml hown hts hK hR hret ls hl
  replace hl : lv_has ls 5 [(0, .ref v0), (1, .int v1), (2, .int v2), (3, .int v3), (4, .int v4)] := hl
  have J38 : ∀ (ls : Array Slot), fX9_rain_38 ρ = some r → lv_has ls 5 [] → W p l e rX9_rain s m args below meth c H locs 0 0 Q (F0 m 38 ls []) := by
    intro ls hf hl
    rw [fX9_rain_38] at hf
    refine lv_ldc2 (v := 1000000001) hx hb hown (hts _ (lw_t2 (List.mem_of_getElem? (i := 178) rfl) rfl)) dX9_rain_38 ?_
    exact hret _ _ _ dX9_rain_41 hf
  unfold fX9_rain at hf
  refine lv_iload_n hx hb dX9_rain_0 rfl (lv_at hl 1 rfl) ?_
  refine lv_iconst (v := 2) hx hb dX9_rain_1 (by decide) ?_
  refine lv_bipush (v := 20) hx hb dX9_rain_2 (by decide) ?_
  obtain ⟨x1, h1, hf⟩ := Option.bind_eq_some_iff.mp hf
  refine r_callS (As := [.int v1, .int 2, .int 20]) (rest := []) (st1 := [.int x1]) ⟨hx, hb, hml, hown, hts⟩ (kX0_isWithin l G ρ v1 2 20 _ h1) (cu_S hts tw_1_206 tw_3_3 tw_1_205 tw_1_2 hdX0_isWithin rfl rfl ⟨Nat.le_of_ble_eq_true rfl, Nat.le_of_ble_eq_true rfl⟩) hK hR rfl hl.1 rfl (Nat.le_of_ble_eq_true rfl) dX9_rain_4 ⟨Nat.zero_le _, Nat.zero_le _⟩ rfl ?_
  refine lv_if_eq (tgt := 38) hx hb dX9_rain_7 (by decide) (fun c2 => ?_) (fun c2 => ?_)
  · replace hf := (if_pos c2).symm.trans hf
    exact J38 ls hf (lv_sub hl [] rfl)
  · replace hf := (if_neg c2).symm.trans hf
    refine lv_iload_n hx hb dX9_rain_10 rfl (lv_at hl 2 rfl) ?_
    refine lv_iconst (v := 0) hx hb dX9_rain_11 (by decide) ?_
    refine lv_bipush (v := 8) hx hb dX9_rain_12 (by decide) ?_
    obtain ⟨x3, h3, hf⟩ := Option.bind_eq_some_iff.mp hf
    refine r_callS (As := [.int v2, .int 0, .int 8]) (rest := []) (st1 := [.int x3]) ⟨hx, hb, hml, hown, hts⟩ (kX0_isWithin l G ρ v2 0 8 _ h3) (cu_S hts tw_1_206 tw_3_3 tw_1_205 tw_1_2 hdX0_isWithin rfl rfl ⟨Nat.le_of_ble_eq_true rfl, Nat.le_of_ble_eq_true rfl⟩) hK hR rfl hl.1 rfl (Nat.le_of_ble_eq_true rfl) dX9_rain_14 ⟨Nat.zero_le _, Nat.zero_le _⟩ rfl ?_
    refine lv_if_eq (tgt := 38) hx hb dX9_rain_17 (by decide) (fun c4 => ?_) (fun c4 => ?_)
    · replace hf := (if_pos c4).symm.trans hf
      exact J38 ls hf (lv_sub hl [] rfl)
    · replace hf := (if_neg c4).symm.trans hf
      refine lv_iload_n hx hb dX9_rain_20 rfl (lv_at hl 3 rfl) ?_
      refine lv_iconst (v := 0) hx hb dX9_rain_21 (by decide) ?_
      refine lv_bipush (v := 8) hx hb dX9_rain_22 (by decide) ?_
      obtain ⟨x5, h5, hf⟩ := Option.bind_eq_some_iff.mp hf
      refine r_callS (As := [.int v3, .int 0, .int 8]) (rest := []) (st1 := [.int x5]) ⟨hx, hb, hml, hown, hts⟩ (kX0_isWithin l G ρ v3 0 8 _ h5) (cu_S hts tw_1_206 tw_3_3 tw_1_205 tw_1_2 hdX0_isWithin rfl rfl ⟨Nat.le_of_ble_eq_true rfl, Nat.le_of_ble_eq_true rfl⟩) hK hR rfl hl.1 rfl (Nat.le_of_ble_eq_true rfl) dX9_rain_24 ⟨Nat.zero_le _, Nat.zero_le _⟩ rfl ?_
      refine lv_if_eq (tgt := 38) hx hb dX9_rain_27 (by decide) (fun c6 => ?_) (fun c6 => ?_)
      · replace hf := (if_pos c6).symm.trans hf
        exact J38 ls hf (lv_sub hl [] rfl)
      · replace hf := (if_neg c6).symm.trans hf
        refine lv_iload hx hb dX9_rain_30 (lv_at hl 4 rfl) ?_
        obtain ⟨x7, h7, hf⟩ := Option.bind_eq_some_iff.mp hf
        refine r_callS (As := [.int v4]) (rest := []) (st1 := [.int x7]) ⟨hx, hb, hml, hown, hts⟩ (kX9_isZeroOrOne l G ρ v4 _ h7) (cu_S hts tw_2_121 tw_2_119 tw_2_120 tw_1_1 hdX9_isZeroOrOne rfl rfl ⟨Nat.le_of_ble_eq_true rfl, Nat.le_of_ble_eq_true rfl⟩) hK hR rfl hl.1 rfl (Nat.le_of_ble_eq_true rfl) dX9_rain_32 ⟨Nat.zero_le _, Nat.zero_le _⟩ rfl ?_
        refine lv_if_ne (tgt := 42) hx hb dX9_rain_35 (by decide) (fun c8 => ?_) (fun c8 => ?_)
        · replace hf := (if_neg c8).symm.trans hf
          refine lv_iload_n hx hb dX9_rain_42 rfl (lv_at hl 1 rfl) ?_
          refine lv_iload_n hx hb dX9_rain_43 rfl (lv_at hl 2 rfl) ?_
          refine lv_iload_n hx hb dX9_rain_44 rfl (lv_at hl 3 rfl) ?_
          obtain ⟨x9, h9, hf⟩ := Option.bind_eq_some_iff.mp hf
          refine r_callS (As := [.int v1, .int v2, .int v3]) (rest := []) (st1 := [.long x9]) ⟨hx, hb, hml, hown, hts⟩ (kX4_wetWays l G ρ v1 v2 v3 _ h9) (cu_S hts tw_3_104 tw_3_102 tw_3_103 tw_1_10 hdX4_wetWays rfl rfl ⟨Nat.le_of_ble_eq_true rfl, Nat.le_of_ble_eq_true rfl⟩) hK hR rfl hl.1 rfl (Nat.le_of_ble_eq_true rfl) dX9_rain_45 ⟨Nat.zero_le _, Nat.zero_le _⟩ rfl ?_
          refine lv_iload_n hx hb dX9_rain_48 rfl (lv_at hl 1 rfl) ?_
          refine lv_i2l (v := (Int32.toInt64 v1)) hx hb dX9_rain_49 rfl ?_
          refine lv_iload_n hx hb dX9_rain_50 rfl (lv_at hl 2 rfl) ?_
          obtain ⟨x10, h10, hf⟩ := Option.bind_eq_some_iff.mp hf
          refine r_callS (As := [.long (Int32.toInt64 v1), .int v2]) (rest := [.long x9]) (st1 := [.long x10, .long x9]) ⟨hx, hb, hml, hown, hts⟩ (kX4_power l G ρ (Int32.toInt64 v1) v2 _ h10) (cu_S hts tw_3_107 tw_3_108 tw_3_106 tw_1_10 hdX4_power rfl rfl ⟨Nat.le_of_ble_eq_true rfl, Nat.le_of_ble_eq_true rfl⟩) hK hR rfl hl.1 rfl (Nat.le_of_ble_eq_true rfl) dX9_rain_51 ⟨Nat.zero_le _, Nat.zero_le _⟩ rfl ?_
          refine lv_iload hx hb dX9_rain_54 (lv_at hl 4 rfl) ?_
          obtain ⟨x11, h11, hf⟩ := Option.bind_eq_some_iff.mp hf
          refine r_callS (As := [.long x9, .long x10, .int v4]) (rest := []) (st1 := [.long x11]) ⟨hx, hb, hml, hown, hts⟩ (kX4_leastTerms l G ρ x9 x10 v4 _ h11) (cu_S hts tw_2_185 tw_2_183 tw_2_184 tw_1_10 hdX4_leastTerms rfl rfl ⟨Nat.le_of_ble_eq_true rfl, Nat.le_of_ble_eq_true rfl⟩) hK hR rfl hl.1 rfl (Nat.le_of_ble_eq_true rfl) dX9_rain_56 ⟨Nat.zero_le _, Nat.zero_le _⟩ rfl ?_
          exact hret _ _ _ dX9_rain_59 hf
        · replace hf := (if_pos c8).symm.trans hf
          exact J38 ls hf (lv_sub hl [] rfl)
/-! BrickedUpAsBlind.loophole()I -/
def fX9_loophole (ρ : Rho) (v0 : Nat) : Option (Int32 × Rho) :=
    (gR ρ 2 v0 2).bind fun x1 =>
    (gR ρ 2 v0 0).bind fun x2 =>
    (ckO ρ 0 x1).bind fun x3 =>
    (fX0_become ρ x1 x2).bind fun x4 =>
    (gR x4 2 v0 0).bind fun x5 =>
    (gR x4 2 v0 2).bind fun x6 =>
    (fX3_cheapestChange x4 x5 x6).bind fun x7 =>
    some (x7.1, x7.2)
abbrev rX9_loophole : Room := { frames := 6, cells := 0, slots := 0, locals := 139 }
theorem hdX9_loophole : hdP yX9_loophole 0 := by unfold hdP; decide +kernel
set_option maxHeartbeats 4000000 in
set_option maxRecDepth 100000 in
theorem kX9_loophole (l : Launch) (G : GD) (ρ : Rho) (v0 : Nat) (r0 : Int32) (ρ1 : Rho) (hf : fX9_loophole ρ v0 = some (r0, ρ1)) : WM l G yX9_loophole (Cond.code yX9_loophole cX9_loophole 1 (some .int) :: LW) rX9_loophole ρ [.ref v0] (some (.int r0)) ρ1 := by
  obtain ⟨r, hr⟩ : ∃ r, r = (r0, ρ1) := ⟨_, rfl⟩
  rw [← hr] at hf
  refine WM.ofI (own := RX9) (r := r) hr (by decide) rfl (Nat.le_of_ble_eq_true rfl) ?_
  intro p e s m args below meth c H locs Q hx hb hml hown hts hK hR hS hret ls hl
  obtain ⟨ρ0, hρ0⟩ : ∃ z, z = ρ := ⟨_, rfl⟩
  rw [← hρ0] at hret
  replace hS : WS ρ0 s.heap ρ H locs := hρ0 ▸ hS
  replace hl : lv_has ls 1 [(0, .ref v0)] := hl
  unfold fX9_loophole at hf
  refine lv_aload_n hx hb dX9_loophole_0 rfl (lv_at hl 0 rfl) ?_
  obtain ⟨x1, h1, hf⟩ := Option.bind_eq_some_iff.mp hf
  refine r_gR hx hb hts inX9 hown hK hR rfl 2 (by decide) (hts _ tw_1_134) h1 dX9_loophole_1 ?_
  refine lv_aload_n hx hb dX9_loophole_4 rfl (lv_at hl 0 rfl) ?_
  obtain ⟨x2, h2, hf⟩ := Option.bind_eq_some_iff.mp hf
  refine r_gR hx hb hts inX9 hown hK hR rfl 0 (by decide) (hts _ tw_1_132) h2 dX9_loophole_5 ?_
  obtain ⟨x3, h3, hf⟩ := Option.bind_eq_some_iff.mp hf
  obtain ⟨x4, h4, hf⟩ := Option.bind_eq_some_iff.mp hf
  refine w_callV (As := [.ref x2]) (rest := []) (st1 := []) ⟨hx, hb, hml, hown, hts⟩ (kX0_become l G ρ x1 x2 _ h4) (cu_V hts tw_1_178 tw_1_175 tw_1_176 tw_1_177 tw_1_2 hdX0_become rfl rfl ⟨Nat.le_of_ble_eq_true rfl, Nat.le_of_ble_eq_true rfl⟩) hK hR hS rfl h3 rfl hl.1 rfl (Nat.le_of_ble_eq_true rfl) dX9_loophole_8 ⟨Nat.zero_le _, Nat.zero_le _⟩ rfl (fun H locs hR hS => ?_)
  refine lv_aload_n hx hb dX9_loophole_11 rfl (lv_at hl 0 rfl) ?_
  obtain ⟨x5, h5, hf⟩ := Option.bind_eq_some_iff.mp hf
  refine r_gR hx hb hts inX9 hown hK hR rfl 0 (by decide) (hts _ tw_1_132) h5 dX9_loophole_12 ?_
  refine lv_aload_n hx hb dX9_loophole_15 rfl (lv_at hl 0 rfl) ?_
  obtain ⟨x6, h6, hf⟩ := Option.bind_eq_some_iff.mp hf
  refine r_gR hx hb hts inX9 hown hK hR rfl 2 (by decide) (hts _ tw_1_134) h6 dX9_loophole_16 ?_
  obtain ⟨x7, h7, hf⟩ := Option.bind_eq_some_iff.mp hf
  refine w_callS (As := [.ref x5, .ref x6]) (rest := []) (st1 := [.int x7.1]) ⟨hx, hb, hml, hown, hts⟩ (kX3_cheapestChange l G x4 x5 x6 _ _ h7) (cu_S hts tw_3_115 tw_3_113 tw_3_114 tw_1_14 hdX3_cheapestChange rfl rfl ⟨Nat.le_of_ble_eq_true rfl, Nat.le_of_ble_eq_true rfl⟩) hK hR hS rfl hl.1 rfl (Nat.le_of_ble_eq_true rfl) dX9_loophole_19 ⟨Nat.zero_le _, Nat.zero_le _⟩ rfl (fun H locs hR hS => ?_)
  exact hret _ _ _ _ _ _ dX9_loophole_22 hR hS hf
/-! BrickedUpAsBlind.forged(I)I -/
def fX9_forged (ρ : Rho) (v0 : Nat) (v1 : Int32) : Option Int32 :=
    (fX9_isShelf ρ v1).bind fun x1 =>
    if x1 = 0 then (some (-1))
    else ((gR ρ 2 v0 3).bind fun x3 =>
    (ldR ρ x3 v1).bind fun x4 =>
    (ckO ρ 1 x4).bind fun x5 =>
    (fX6_refusalAsRow ρ x4).bind fun x6 =>
    if (0 : Int32) ≤ x6 then ((gR ρ 2 v0 0).bind fun x8 =>
    (gR ρ 2 v0 3).bind fun x9 =>
    (ldR ρ x9 v1).bind fun x10 =>
    (fX3_forgedPlace ρ x8 x10).bind fun x11 =>
    some x11)
    else (some x6))
abbrev rX9_forged : Room := { frames := 5, cells := 0, slots := 0, locals := 115 }
theorem hdX9_forged : hdP yX9_forged 1 := by unfold hdP; decide +kernel
set_option maxHeartbeats 4000000 in
set_option maxRecDepth 100000 in
theorem kX9_forged (l : Launch) (G : GD) (ρ : Rho) (v0 : Nat) (v1 : Int32) (r : Int32) (hf : fX9_forged ρ v0 v1 = some r) : RM l G yX9_forged (Cond.code yX9_forged cX9_forged 3 (some .int) :: LW) rX9_forged ρ [.ref v0, .int v1] (some (.int r)) := by
  refine RM.ofI (own := RX9) (by decide) rfl (Nat.le_of_ble_eq_true rfl) ?_
  intro p e s m args below meth c H locs Q hx hb hml hown hts hK hR hret ls hl
  replace hl : lv_has ls 3 [(0, .ref v0), (1, .int v1)] := hl
  unfold fX9_forged at hf
  refine lv_iload_n hx hb dX9_forged_0 rfl (lv_at hl 1 rfl) ?_
  obtain ⟨x1, h1, hf⟩ := Option.bind_eq_some_iff.mp hf
  refine r_callS (As := [.int v1]) (rest := []) (st1 := [.int x1]) ⟨hx, hb, hml, hown, hts⟩ (kX9_isShelf l G ρ v1 _ h1) (cu_S hts tw_1_154 tw_1_152 tw_1_153 tw_1_1 hdX9_isShelf rfl rfl ⟨Nat.le_of_ble_eq_true rfl, Nat.le_of_ble_eq_true rfl⟩) hK hR rfl hl.1 rfl (Nat.le_of_ble_eq_true rfl) dX9_forged_1 ⟨Nat.zero_le _, Nat.zero_le _⟩ rfl ?_
  refine lv_if_ne (tgt := 9) hx hb dX9_forged_4 (by decide) (fun c2 => ?_) (fun c2 => ?_)
  · replace hf := (if_neg c2).symm.trans hf
    refine lv_aload_n hx hb dX9_forged_9 rfl (lv_at hl 0 rfl) ?_
    obtain ⟨x3, h3, hf⟩ := Option.bind_eq_some_iff.mp hf
    refine r_gR hx hb hts inX9 hown hK hR rfl 3 (by decide) (hts _ tw_1_135) h3 dX9_forged_10 ?_
    refine lv_iload_n hx hb dX9_forged_13 rfl (lv_at hl 1 rfl) ?_
    obtain ⟨x4, h4, hf⟩ := Option.bind_eq_some_iff.mp hf
    refine r_ldR hx hb hK hR h4 dX9_forged_14 ?_
    obtain ⟨x5, h5, hf⟩ := Option.bind_eq_some_iff.mp hf
    obtain ⟨x6, h6, hf⟩ := Option.bind_eq_some_iff.mp hf
    refine r_callV (As := []) (rest := []) (st1 := [.int x6]) ⟨hx, hb, hml, hown, hts⟩ (kX6_refusalAsRow l G ρ x4 _ h6) (cu_V hts tw_1_158 tw_1_155 tw_1_156 tw_1_157 tw_1_3 hdX6_refusalAsRow rfl rfl ⟨Nat.le_of_ble_eq_true rfl, Nat.le_of_ble_eq_true rfl⟩) hK hR rfl h5 rfl hl.1 rfl (Nat.le_of_ble_eq_true rfl) dX9_forged_15 ⟨Nat.zero_le _, Nat.zero_le _⟩ rfl ?_
    refine lv_istore_n (lv' := [(2, .int x6), (0, .ref v0), (1, .int v1)]) hx hb dX9_forged_18 rfl hl (by decide) rfl (fun ls hl => ?_)
    refine lv_iload_n hx hb dX9_forged_19 rfl (lv_at hl 0 rfl) ?_
    refine lv_if_ge (tgt := 27) hx hb dX9_forged_20 (by decide) (fun c7 => ?_) (fun c7 => ?_)
    · replace hf := (if_pos c7).symm.trans hf
      refine lv_aload_n hx hb dX9_forged_27 rfl (lv_at hl 1 rfl) ?_
      obtain ⟨x8, h8, hf⟩ := Option.bind_eq_some_iff.mp hf
      refine r_gR hx hb hts inX9 hown hK hR rfl 0 (by decide) (hts _ tw_1_132) h8 dX9_forged_28 ?_
      refine lv_aload_n hx hb dX9_forged_31 rfl (lv_at hl 1 rfl) ?_
      obtain ⟨x9, h9, hf⟩ := Option.bind_eq_some_iff.mp hf
      refine r_gR hx hb hts inX9 hown hK hR rfl 3 (by decide) (hts _ tw_1_135) h9 dX9_forged_32 ?_
      refine lv_iload_n hx hb dX9_forged_35 rfl (lv_at hl 2 rfl) ?_
      obtain ⟨x10, h10, hf⟩ := Option.bind_eq_some_iff.mp hf
      refine r_ldR hx hb hK hR h10 dX9_forged_36 ?_
      obtain ⟨x11, h11, hf⟩ := Option.bind_eq_some_iff.mp hf
      refine r_callS (As := [.ref x8, .ref x10]) (rest := []) (st1 := [.int x11]) ⟨hx, hb, hml, hown, hts⟩ (kX3_forgedPlace l G ρ x8 x10 _ h11) (cu_S hts tw_3_127 tw_3_125 tw_3_126 tw_1_14 hdX3_forgedPlace rfl rfl ⟨Nat.le_of_ble_eq_true rfl, Nat.le_of_ble_eq_true rfl⟩) hK hR rfl hl.1 rfl (Nat.le_of_ble_eq_true rfl) dX9_forged_37 ⟨Nat.zero_le _, Nat.zero_le _⟩ rfl ?_
      exact hret _ _ _ dX9_forged_40 hf
    · replace hf := (if_neg c7).symm.trans hf
      refine lv_iload_n hx hb dX9_forged_23 rfl (lv_at hl 0 rfl) ?_
      refine lv_goto (tgt := 40) hx hb dX9_forged_24 (by decide) ?_
      exact hret _ _ _ dX9_forged_40 hf
  · replace hf := (if_pos c2).symm.trans hf
    refine lv_iconst (v := (-1)) hx hb dX9_forged_7 (by decide) ?_
    exact hret _ _ _ dX9_forged_8 hf
/-! BrickedUpAsBlind.judge(I)I -/
def fX9_judge (ρ : Rho) (v0 : Nat) (v1 : Int32) : Option Int32 :=
    (fX9_isShelf ρ v1).bind fun x1 =>
    if x1 = 0 then (some (-1))
    else ((gR ρ 2 v0 3).bind fun x3 =>
    (ldR ρ x3 v1).bind fun x4 =>
    (ckO ρ 1 x4).bind fun x5 =>
    (fX6_refusalAsRow ρ x4).bind fun x6 =>
    if (0 : Int32) ≤ x6 then ((gR ρ 2 v0 0).bind fun x8 =>
    (gR ρ 2 v0 3).bind fun x9 =>
    (ldR ρ x9 v1).bind fun x10 =>
    (fX3_wrongYear ρ x8 x10).bind fun x11 =>
    some x11)
    else (some x6))
abbrev rX9_judge : Room := { frames := 4, cells := 0, slots := 0, locals := 111 }
theorem hdX9_judge : hdP yX9_judge 1 := by unfold hdP; decide +kernel
set_option maxHeartbeats 4000000 in
set_option maxRecDepth 100000 in
theorem kX9_judge (l : Launch) (G : GD) (ρ : Rho) (v0 : Nat) (v1 : Int32) (r : Int32) (hf : fX9_judge ρ v0 v1 = some r) : RM l G yX9_judge (Cond.code yX9_judge cX9_judge 3 (some .int) :: LW) rX9_judge ρ [.ref v0, .int v1] (some (.int r)) := by
  refine RM.ofI (own := RX9) (by decide) rfl (Nat.le_of_ble_eq_true rfl) ?_
  intro p e s m args below meth c H locs Q hx hb hml hown hts hK hR hret ls hl
  replace hl : lv_has ls 3 [(0, .ref v0), (1, .int v1)] := hl
  unfold fX9_judge at hf
  refine lv_iload_n hx hb dX9_judge_0 rfl (lv_at hl 1 rfl) ?_
  obtain ⟨x1, h1, hf⟩ := Option.bind_eq_some_iff.mp hf
  refine r_callS (As := [.int v1]) (rest := []) (st1 := [.int x1]) ⟨hx, hb, hml, hown, hts⟩ (kX9_isShelf l G ρ v1 _ h1) (cu_S hts tw_1_154 tw_1_152 tw_1_153 tw_1_1 hdX9_isShelf rfl rfl ⟨Nat.le_of_ble_eq_true rfl, Nat.le_of_ble_eq_true rfl⟩) hK hR rfl hl.1 rfl (Nat.le_of_ble_eq_true rfl) dX9_judge_1 ⟨Nat.zero_le _, Nat.zero_le _⟩ rfl ?_
  refine lv_if_ne (tgt := 9) hx hb dX9_judge_4 (by decide) (fun c2 => ?_) (fun c2 => ?_)
  · replace hf := (if_neg c2).symm.trans hf
    refine lv_aload_n hx hb dX9_judge_9 rfl (lv_at hl 0 rfl) ?_
    obtain ⟨x3, h3, hf⟩ := Option.bind_eq_some_iff.mp hf
    refine r_gR hx hb hts inX9 hown hK hR rfl 3 (by decide) (hts _ tw_1_135) h3 dX9_judge_10 ?_
    refine lv_iload_n hx hb dX9_judge_13 rfl (lv_at hl 1 rfl) ?_
    obtain ⟨x4, h4, hf⟩ := Option.bind_eq_some_iff.mp hf
    refine r_ldR hx hb hK hR h4 dX9_judge_14 ?_
    obtain ⟨x5, h5, hf⟩ := Option.bind_eq_some_iff.mp hf
    obtain ⟨x6, h6, hf⟩ := Option.bind_eq_some_iff.mp hf
    refine r_callV (As := []) (rest := []) (st1 := [.int x6]) ⟨hx, hb, hml, hown, hts⟩ (kX6_refusalAsRow l G ρ x4 _ h6) (cu_V hts tw_1_158 tw_1_155 tw_1_156 tw_1_157 tw_1_3 hdX6_refusalAsRow rfl rfl ⟨Nat.le_of_ble_eq_true rfl, Nat.le_of_ble_eq_true rfl⟩) hK hR rfl h5 rfl hl.1 rfl (Nat.le_of_ble_eq_true rfl) dX9_judge_15 ⟨Nat.zero_le _, Nat.zero_le _⟩ rfl ?_
    refine lv_istore_n (lv' := [(2, .int x6), (0, .ref v0), (1, .int v1)]) hx hb dX9_judge_18 rfl hl (by decide) rfl (fun ls hl => ?_)
    refine lv_iload_n hx hb dX9_judge_19 rfl (lv_at hl 0 rfl) ?_
    refine lv_if_ge (tgt := 27) hx hb dX9_judge_20 (by decide) (fun c7 => ?_) (fun c7 => ?_)
    · replace hf := (if_pos c7).symm.trans hf
      refine lv_aload_n hx hb dX9_judge_27 rfl (lv_at hl 1 rfl) ?_
      obtain ⟨x8, h8, hf⟩ := Option.bind_eq_some_iff.mp hf
      refine r_gR hx hb hts inX9 hown hK hR rfl 0 (by decide) (hts _ tw_1_132) h8 dX9_judge_28 ?_
      refine lv_aload_n hx hb dX9_judge_31 rfl (lv_at hl 1 rfl) ?_
      obtain ⟨x9, h9, hf⟩ := Option.bind_eq_some_iff.mp hf
      refine r_gR hx hb hts inX9 hown hK hR rfl 3 (by decide) (hts _ tw_1_135) h9 dX9_judge_32 ?_
      refine lv_iload_n hx hb dX9_judge_35 rfl (lv_at hl 2 rfl) ?_
      obtain ⟨x10, h10, hf⟩ := Option.bind_eq_some_iff.mp hf
      refine r_ldR hx hb hK hR h10 dX9_judge_36 ?_
      obtain ⟨x11, h11, hf⟩ := Option.bind_eq_some_iff.mp hf
      refine r_callS (As := [.ref x8, .ref x10]) (rest := []) (st1 := [.int x11]) ⟨hx, hb, hml, hown, hts⟩ (kX3_wrongYear l G ρ x8 x10 _ h11) (cu_S hts tw_3_138 tw_3_136 tw_3_137 tw_1_14 hdX3_wrongYear rfl rfl ⟨Nat.le_of_ble_eq_true rfl, Nat.le_of_ble_eq_true rfl⟩) hK hR rfl hl.1 rfl (Nat.le_of_ble_eq_true rfl) dX9_judge_37 ⟨Nat.zero_le _, Nat.zero_le _⟩ rfl ?_
      exact hret _ _ _ dX9_judge_40 hf
    · replace hf := (if_neg c7).symm.trans hf
      refine lv_iload_n hx hb dX9_judge_23 rfl (lv_at hl 0 rfl) ?_
      refine lv_goto (tgt := 40) hx hb dX9_judge_24 (by decide) ?_
      exact hret _ _ _ dX9_judge_40 hf
  · replace hf := (if_pos c2).symm.trans hf
    refine lv_iconst (v := (-1)) hx hb dX9_judge_7 (by decide) ?_
    exact hret _ _ _ dX9_judge_8 hf
/-! BrickedUpAsBlind.lots(III)I -/
def fX9_lots (ρ : Rho) (v0 : Nat) (v1 : Int32) (v2 : Int32) (v3 : Int32) : Option Int32 :=
    (fX0_isWithin ρ v1 1 20).bind fun x1 =>
    if x1 = 0 then (some (-1))
    else ((fX9_isZeroOrOne ρ v3).bind fun x3 =>
    if x3 = 0 then (some (-1))
    else ((gR ρ 2 v0 0).bind fun x5 =>
    (fX3_drawnYears ρ x5 v1 v2 v3).bind fun x6 =>
    some x6))
abbrev rX9_lots : Room := { frames := 4, cells := 0, slots := 0, locals := 118 }
theorem hdX9_lots : hdP yX9_lots 3 := by unfold hdP; decide +kernel
set_option maxHeartbeats 4000000 in
set_option maxRecDepth 100000 in
theorem kX9_lots (l : Launch) (G : GD) (ρ : Rho) (v0 : Nat) (v1 : Int32) (v2 : Int32) (v3 : Int32) (r : Int32) (hf : fX9_lots ρ v0 v1 v2 v3 = some r) : RM l G yX9_lots (Cond.code yX9_lots cX9_lots 4 (some .int) :: LW) rX9_lots ρ [.ref v0, .int v1, .int v2, .int v3] (some (.int r)) := by
  refine RM.ofI (own := RX9) (by decide) rfl (Nat.le_of_ble_eq_true rfl) ?_
  intro p e s m args below meth c H locs Q hx hb hml hown hts hK hR hret ls hl
  replace hl : lv_has ls 4 [(0, .ref v0), (1, .int v1), (2, .int v2), (3, .int v3)] := hl
  unfold fX9_lots at hf
  refine lv_iload_n hx hb dX9_lots_0 rfl (lv_at hl 1 rfl) ?_
  refine lv_iconst (v := 1) hx hb dX9_lots_1 (by decide) ?_
  refine lv_bipush (v := 20) hx hb dX9_lots_2 (by decide) ?_
  obtain ⟨x1, h1, hf⟩ := Option.bind_eq_some_iff.mp hf
  refine r_callS (As := [.int v1, .int 1, .int 20]) (rest := []) (st1 := [.int x1]) ⟨hx, hb, hml, hown, hts⟩ (kX0_isWithin l G ρ v1 1 20 _ h1) (cu_S hts tw_1_206 tw_3_3 tw_1_205 tw_1_2 hdX0_isWithin rfl rfl ⟨Nat.le_of_ble_eq_true rfl, Nat.le_of_ble_eq_true rfl⟩) hK hR rfl hl.1 rfl (Nat.le_of_ble_eq_true rfl) dX9_lots_4 ⟨Nat.zero_le _, Nat.zero_le _⟩ rfl ?_
  refine lv_if_eq (tgt := 17) hx hb dX9_lots_7 (by decide) (fun c2 => ?_) (fun c2 => ?_)
  · replace hf := (if_pos c2).symm.trans hf
    refine lv_iconst (v := (-1)) hx hb dX9_lots_17 (by decide) ?_
    exact hret _ _ _ dX9_lots_18 hf
  · replace hf := (if_neg c2).symm.trans hf
    refine lv_iload_n hx hb dX9_lots_10 rfl (lv_at hl 3 rfl) ?_
    obtain ⟨x3, h3, hf⟩ := Option.bind_eq_some_iff.mp hf
    refine r_callS (As := [.int v3]) (rest := []) (st1 := [.int x3]) ⟨hx, hb, hml, hown, hts⟩ (kX9_isZeroOrOne l G ρ v3 _ h3) (cu_S hts tw_2_121 tw_2_119 tw_2_120 tw_1_1 hdX9_isZeroOrOne rfl rfl ⟨Nat.le_of_ble_eq_true rfl, Nat.le_of_ble_eq_true rfl⟩) hK hR rfl hl.1 rfl (Nat.le_of_ble_eq_true rfl) dX9_lots_11 ⟨Nat.zero_le _, Nat.zero_le _⟩ rfl ?_
    refine lv_if_ne (tgt := 19) hx hb dX9_lots_14 (by decide) (fun c4 => ?_) (fun c4 => ?_)
    · replace hf := (if_neg c4).symm.trans hf
      refine lv_aload_n hx hb dX9_lots_19 rfl (lv_at hl 0 rfl) ?_
      obtain ⟨x5, h5, hf⟩ := Option.bind_eq_some_iff.mp hf
      refine r_gR hx hb hts inX9 hown hK hR rfl 0 (by decide) (hts _ tw_1_132) h5 dX9_lots_20 ?_
      refine lv_iload_n hx hb dX9_lots_23 rfl (lv_at hl 1 rfl) ?_
      refine lv_iload_n hx hb dX9_lots_24 rfl (lv_at hl 2 rfl) ?_
      refine lv_iload_n hx hb dX9_lots_25 rfl (lv_at hl 3 rfl) ?_
      obtain ⟨x6, h6, hf⟩ := Option.bind_eq_some_iff.mp hf
      refine r_callS (As := [.ref x5, .int v1, .int v2, .int v3]) (rest := []) (st1 := [.int x6]) ⟨hx, hb, hml, hown, hts⟩ (kX3_drawnYears l G ρ x5 v1 v2 v3 _ h6) (cu_S hts tw_3_146 tw_3_144 tw_3_145 tw_1_14 hdX3_drawnYears rfl rfl ⟨Nat.le_of_ble_eq_true rfl, Nat.le_of_ble_eq_true rfl⟩) hK hR rfl hl.1 rfl (Nat.le_of_ble_eq_true rfl) dX9_lots_26 ⟨Nat.zero_le _, Nat.zero_le _⟩ rfl ?_
      exact hret _ _ _ dX9_lots_29 hf
    · replace hf := (if_pos c4).symm.trans hf
      refine lv_iconst (v := (-1)) hx hb dX9_lots_17 (by decide) ?_
      exact hret _ _ _ dX9_lots_18 hf
/-! BrickedUpAsBlind.image()I -/
def fX9_image (ρ : Rho) (v0 : Nat) : Option (Int32 × Rho) :=
    (gR ρ 2 v0 1).bind fun x1 =>
    (gR ρ 2 v0 0).bind fun x2 =>
    (ckO ρ 0 x1).bind fun x3 =>
    (fX0_become ρ x1 x2).bind fun x4 =>
    (ptV x4 2 v0 4 (.int 1)).bind fun x5 =>
    (gR x5 2 v0 0).bind fun x6 =>
    (gI x5 0 x6 8).bind fun x7 =>
    some (x7, x5)
abbrev rX9_image : Room := { frames := 2, cells := 0, slots := 0, locals := 85 }
theorem hdX9_image : hdP yX9_image 0 := by unfold hdP; decide +kernel
set_option maxHeartbeats 4000000 in
set_option maxRecDepth 100000 in
theorem kX9_image (l : Launch) (G : GD) (ρ : Rho) (v0 : Nat) (r0 : Int32) (ρ1 : Rho) (hf : fX9_image ρ v0 = some (r0, ρ1)) : WM l G yX9_image (Cond.code yX9_image cX9_image 1 (some .int) :: LW) rX9_image ρ [.ref v0] (some (.int r0)) ρ1 := by
  obtain ⟨r, hr⟩ : ∃ r, r = (r0, ρ1) := ⟨_, rfl⟩
  rw [← hr] at hf
  refine WM.ofI (own := RX9) (r := r) hr (by decide) rfl (Nat.le_of_ble_eq_true rfl) ?_
  intro p e s m args below meth c H locs Q hx hb hml hown hts hK hR hS hret ls hl
  obtain ⟨ρ0, hρ0⟩ : ∃ z, z = ρ := ⟨_, rfl⟩
  rw [← hρ0] at hret
  replace hS : WS ρ0 s.heap ρ H locs := hρ0 ▸ hS
  replace hl : lv_has ls 1 [(0, .ref v0)] := hl
  unfold fX9_image at hf
  refine lv_aload_n hx hb dX9_image_0 rfl (lv_at hl 0 rfl) ?_
  obtain ⟨x1, h1, hf⟩ := Option.bind_eq_some_iff.mp hf
  refine r_gR hx hb hts inX9 hown hK hR rfl 1 (by decide) (hts _ tw_1_133) h1 dX9_image_1 ?_
  refine lv_aload_n hx hb dX9_image_4 rfl (lv_at hl 0 rfl) ?_
  obtain ⟨x2, h2, hf⟩ := Option.bind_eq_some_iff.mp hf
  refine r_gR hx hb hts inX9 hown hK hR rfl 0 (by decide) (hts _ tw_1_132) h2 dX9_image_5 ?_
  obtain ⟨x3, h3, hf⟩ := Option.bind_eq_some_iff.mp hf
  obtain ⟨x4, h4, hf⟩ := Option.bind_eq_some_iff.mp hf
  refine w_callV (As := [.ref x2]) (rest := []) (st1 := []) ⟨hx, hb, hml, hown, hts⟩ (kX0_become l G ρ x1 x2 _ h4) (cu_V hts tw_1_178 tw_1_175 tw_1_176 tw_1_177 tw_1_2 hdX0_become rfl rfl ⟨Nat.le_of_ble_eq_true rfl, Nat.le_of_ble_eq_true rfl⟩) hK hR hS rfl h3 rfl hl.1 rfl (Nat.le_of_ble_eq_true rfl) dX9_image_8 ⟨Nat.zero_le _, Nat.zero_le _⟩ rfl (fun H locs hR hS => ?_)
  refine lv_aload_n hx hb dX9_image_11 rfl (lv_at hl 0 rfl) ?_
  refine lv_iconst (v := 1) hx hb dX9_image_12 (by decide) ?_
  obtain ⟨x5, h5, hf⟩ := Option.bind_eq_some_iff.mp hf
  refine w_ptV hx hb hts inX9 tyX9 tyX9_ok nmX9 hown hK hR hS rfl 4 (by decide) (hts _ tw_1_136) rfl (ty := .boolean) rfl rfl rfl h5 dX9_image_13 (fun H locs hR hS => ?_)
  refine lv_aload_n hx hb dX9_image_16 rfl (lv_at hl 0 rfl) ?_
  obtain ⟨x6, h6, hf⟩ := Option.bind_eq_some_iff.mp hf
  refine r_gR hx hb hts inX9 hown hK hR rfl 0 (by decide) (hts _ tw_1_132) h6 dX9_image_17 ?_
  obtain ⟨x7, h7, hf⟩ := Option.bind_eq_some_iff.mp hf
  refine r_gI hx hb hts inX0 hown hK hR rfl 8 (by decide) (hts _ tw_1_64) h7 dX9_image_20 ?_
  exact hret _ _ _ _ _ _ dX9_image_23 hR hS hf
/-! BrickedUpAsBlind.restore()I -/
def fX9_restore (ρ : Rho) (v0 : Nat) : Option (Int32 × Rho) :=
    (gI ρ 2 v0 4).bind fun x1 =>
    if x1 = 0 then (some ((-3), ρ))
    else ((gR ρ 2 v0 0).bind fun x3 =>
    (gR ρ 2 v0 1).bind fun x4 =>
    (ckO ρ 0 x3).bind fun x5 =>
    (fX0_become ρ x3 x4).bind fun x6 =>
    (gR x6 2 v0 0).bind fun x7 =>
    (gI x6 0 x7 8).bind fun x8 =>
    some (x8, x6))
abbrev rX9_restore : Room := { frames := 2, cells := 0, slots := 0, locals := 85 }
theorem hdX9_restore : hdP yX9_restore 0 := by unfold hdP; decide +kernel
set_option maxHeartbeats 4000000 in
set_option maxRecDepth 100000 in
theorem kX9_restore (l : Launch) (G : GD) (ρ : Rho) (v0 : Nat) (r0 : Int32) (ρ1 : Rho) (hf : fX9_restore ρ v0 = some (r0, ρ1)) : WM l G yX9_restore (Cond.code yX9_restore cX9_restore 1 (some .int) :: LW) rX9_restore ρ [.ref v0] (some (.int r0)) ρ1 := by
  obtain ⟨r, hr⟩ : ∃ r, r = (r0, ρ1) := ⟨_, rfl⟩
  rw [← hr] at hf
  refine WM.ofI (own := RX9) (r := r) hr (by decide) rfl (Nat.le_of_ble_eq_true rfl) ?_
  intro p e s m args below meth c H locs Q hx hb hml hown hts hK hR hS hret ls hl
  obtain ⟨ρ0, hρ0⟩ : ∃ z, z = ρ := ⟨_, rfl⟩
  rw [← hρ0] at hret
  replace hS : WS ρ0 s.heap ρ H locs := hρ0 ▸ hS
  replace hl : lv_has ls 1 [(0, .ref v0)] := hl
  unfold fX9_restore at hf
  refine lv_aload_n hx hb dX9_restore_0 rfl (lv_at hl 0 rfl) ?_
  obtain ⟨x1, h1, hf⟩ := Option.bind_eq_some_iff.mp hf
  refine r_gI hx hb hts inX9 hown hK hR rfl 4 (by decide) (hts _ tw_1_136) h1 dX9_restore_1 ?_
  refine lv_if_ne (tgt := 10) hx hb dX9_restore_4 (by decide) (fun c2 => ?_) (fun c2 => ?_)
  · replace hf := (if_neg c2).symm.trans hf
    refine lv_aload_n hx hb dX9_restore_10 rfl (lv_at hl 0 rfl) ?_
    obtain ⟨x3, h3, hf⟩ := Option.bind_eq_some_iff.mp hf
    refine r_gR hx hb hts inX9 hown hK hR rfl 0 (by decide) (hts _ tw_1_132) h3 dX9_restore_11 ?_
    refine lv_aload_n hx hb dX9_restore_14 rfl (lv_at hl 0 rfl) ?_
    obtain ⟨x4, h4, hf⟩ := Option.bind_eq_some_iff.mp hf
    refine r_gR hx hb hts inX9 hown hK hR rfl 1 (by decide) (hts _ tw_1_133) h4 dX9_restore_15 ?_
    obtain ⟨x5, h5, hf⟩ := Option.bind_eq_some_iff.mp hf
    obtain ⟨x6, h6, hf⟩ := Option.bind_eq_some_iff.mp hf
    refine w_callV (As := [.ref x4]) (rest := []) (st1 := []) ⟨hx, hb, hml, hown, hts⟩ (kX0_become l G ρ x3 x4 _ h6) (cu_V hts tw_1_178 tw_1_175 tw_1_176 tw_1_177 tw_1_2 hdX0_become rfl rfl ⟨Nat.le_of_ble_eq_true rfl, Nat.le_of_ble_eq_true rfl⟩) hK hR hS rfl h5 rfl hl.1 rfl (Nat.le_of_ble_eq_true rfl) dX9_restore_18 ⟨Nat.zero_le _, Nat.zero_le _⟩ rfl (fun H locs hR hS => ?_)
    refine lv_aload_n hx hb dX9_restore_21 rfl (lv_at hl 0 rfl) ?_
    obtain ⟨x7, h7, hf⟩ := Option.bind_eq_some_iff.mp hf
    refine r_gR hx hb hts inX9 hown hK hR rfl 0 (by decide) (hts _ tw_1_132) h7 dX9_restore_22 ?_
    obtain ⟨x8, h8, hf⟩ := Option.bind_eq_some_iff.mp hf
    refine r_gI hx hb hts inX0 hown hK hR rfl 8 (by decide) (hts _ tw_1_64) h8 dX9_restore_25 ?_
    exact hret _ _ _ _ _ _ dX9_restore_28 hR hS hf
  · replace hf := (if_pos c2).symm.trans hf
    refine lv_bipush (v := (-3)) hx hb dX9_restore_7 (by decide) ?_
    exact hret _ _ _ _ _ _ dX9_restore_9 hR hS hf
/-! BrickedUpAsBlind.count(I)I -/
def fX9_count (ρ : Rho) (v0 : Nat) (v1 : Int32) : Option Int32 :=
    if v1 = (0 : Int32) then ((gR ρ 2 v0 0).bind fun x2 =>
    (gI ρ 0 x2 5).bind fun x3 =>
    some x3)
    else (if v1 = (1 : Int32) then ((gR ρ 2 v0 0).bind fun x5 =>
    (gI ρ 0 x5 7).bind fun x6 =>
    some x6)
    else (if v1 = (2 : Int32) then ((gR ρ 2 v0 0).bind fun x8 =>
    (gI ρ 0 x8 8).bind fun x9 =>
    some x9)
    else (if v1 = (3 : Int32) then ((gR ρ 2 v0 0).bind fun x11 =>
    (gI ρ 0 x11 9).bind fun x12 =>
    some x12)
    else (if v1 = (4 : Int32) then ((gR ρ 2 v0 0).bind fun x14 =>
    (gI ρ 0 x14 10).bind fun x15 =>
    some x15)
    else (if v1 = (5 : Int32) then ((gR ρ 2 v0 0).bind fun x17 =>
    (gI ρ 0 x17 6).bind fun x18 =>
    some x18)
    else (if v1 = (6 : Int32) then ((gR ρ 2 v0 0).bind fun x20 =>
    (ckO ρ 0 x20).bind fun x21 =>
    (fX0_allNeeds ρ x20).bind fun x22 =>
    some x22)
    else (if v1 = (7 : Int32) then ((gR ρ 2 v0 0).bind fun x24 =>
    (gR ρ 2 v0 0).bind fun x25 =>
    (gI ρ 0 x25 7).bind fun x26 =>
    (ckO ρ 0 x24).bind fun x27 =>
    (fX0_wholeLight ρ x24 x26).bind fun x28 =>
    some x28)
    else (some (-1)))))))))
abbrev rX9_count : Room := { frames := 3, cells := 0, slots := 0, locals := 68 }
theorem hdX9_count : hdP yX9_count 1 := by unfold hdP; decide +kernel
set_option maxHeartbeats 4000000 in
set_option maxRecDepth 100000 in
theorem kX9_count (l : Launch) (G : GD) (ρ : Rho) (v0 : Nat) (v1 : Int32) (r : Int32) (hf : fX9_count ρ v0 v1 = some r) : RM l G yX9_count (Cond.code yX9_count cX9_count 2 (some .int) :: LW) rX9_count ρ [.ref v0, .int v1] (some (.int r)) := by
  refine RM.ofI (own := RX9) (by decide) rfl (Nat.le_of_ble_eq_true rfl) ?_
  intro p e s m args below meth c H locs Q hx hb hml hown hts hK hR hret ls hl
  replace hl : lv_has ls 2 [(0, .ref v0), (1, .int v1)] := hl
  unfold fX9_count at hf
  refine lv_iload_n hx hb dX9_count_0 rfl (lv_at hl 1 rfl) ?_
  by_cases c1 : v1 = (0 : Int32)
  · replace hf := (if_pos c1).symm.trans hf
    refine lv_tableIn (tgt := 48) hx hb dX9_count_1 (by rw [c1]; decide) (by rw [c1]; decide) (by rw [c1]; rfl) (by decide) ?_
    refine lv_aload_n hx hb dX9_count_48 rfl (lv_at hl 0 rfl) ?_
    obtain ⟨x2, h2, hf⟩ := Option.bind_eq_some_iff.mp hf
    refine r_gR hx hb hts inX9 hown hK hR rfl 0 (by decide) (hts _ tw_1_132) h2 dX9_count_49 ?_
    obtain ⟨x3, h3, hf⟩ := Option.bind_eq_some_iff.mp hf
    refine r_gI hx hb hts inX0 hown hK hR rfl 5 (by decide) (hts _ tw_1_53) h3 dX9_count_52 ?_
    exact hret _ _ _ dX9_count_55 hf
  · replace hf := (if_neg c1).symm.trans hf
    by_cases c4 : v1 = (1 : Int32)
    · replace hf := (if_pos c4).symm.trans hf
      refine lv_tableIn (tgt := 56) hx hb dX9_count_1 (by rw [c4]; decide) (by rw [c4]; decide) (by rw [c4]; rfl) (by decide) ?_
      refine lv_aload_n hx hb dX9_count_56 rfl (lv_at hl 0 rfl) ?_
      obtain ⟨x5, h5, hf⟩ := Option.bind_eq_some_iff.mp hf
      refine r_gR hx hb hts inX9 hown hK hR rfl 0 (by decide) (hts _ tw_1_132) h5 dX9_count_57 ?_
      obtain ⟨x6, h6, hf⟩ := Option.bind_eq_some_iff.mp hf
      refine r_gI hx hb hts inX0 hown hK hR rfl 7 (by decide) (hts _ tw_1_62) h6 dX9_count_60 ?_
      exact hret _ _ _ dX9_count_63 hf
    · replace hf := (if_neg c4).symm.trans hf
      by_cases c7 : v1 = (2 : Int32)
      · replace hf := (if_pos c7).symm.trans hf
        refine lv_tableIn (tgt := 64) hx hb dX9_count_1 (by rw [c7]; decide) (by rw [c7]; decide) (by rw [c7]; rfl) (by decide) ?_
        refine lv_aload_n hx hb dX9_count_64 rfl (lv_at hl 0 rfl) ?_
        obtain ⟨x8, h8, hf⟩ := Option.bind_eq_some_iff.mp hf
        refine r_gR hx hb hts inX9 hown hK hR rfl 0 (by decide) (hts _ tw_1_132) h8 dX9_count_65 ?_
        obtain ⟨x9, h9, hf⟩ := Option.bind_eq_some_iff.mp hf
        refine r_gI hx hb hts inX0 hown hK hR rfl 8 (by decide) (hts _ tw_1_64) h9 dX9_count_68 ?_
        exact hret _ _ _ dX9_count_71 hf
      · replace hf := (if_neg c7).symm.trans hf
        by_cases c10 : v1 = (3 : Int32)
        · replace hf := (if_pos c10).symm.trans hf
          refine lv_tableIn (tgt := 72) hx hb dX9_count_1 (by rw [c10]; decide) (by rw [c10]; decide) (by rw [c10]; rfl) (by decide) ?_
          refine lv_aload_n hx hb dX9_count_72 rfl (lv_at hl 0 rfl) ?_
          obtain ⟨x11, h11, hf⟩ := Option.bind_eq_some_iff.mp hf
          refine r_gR hx hb hts inX9 hown hK hR rfl 0 (by decide) (hts _ tw_1_132) h11 dX9_count_73 ?_
          obtain ⟨x12, h12, hf⟩ := Option.bind_eq_some_iff.mp hf
          refine r_gI hx hb hts inX0 hown hK hR rfl 9 (by decide) (hts _ tw_1_67) h12 dX9_count_76 ?_
          exact hret _ _ _ dX9_count_79 hf
        · replace hf := (if_neg c10).symm.trans hf
          by_cases c13 : v1 = (4 : Int32)
          · replace hf := (if_pos c13).symm.trans hf
            refine lv_tableIn (tgt := 80) hx hb dX9_count_1 (by rw [c13]; decide) (by rw [c13]; decide) (by rw [c13]; rfl) (by decide) ?_
            refine lv_aload_n hx hb dX9_count_80 rfl (lv_at hl 0 rfl) ?_
            obtain ⟨x14, h14, hf⟩ := Option.bind_eq_some_iff.mp hf
            refine r_gR hx hb hts inX9 hown hK hR rfl 0 (by decide) (hts _ tw_1_132) h14 dX9_count_81 ?_
            obtain ⟨x15, h15, hf⟩ := Option.bind_eq_some_iff.mp hf
            refine r_gI hx hb hts inX0 hown hK hR rfl 10 (by decide) (hts _ tw_1_69) h15 dX9_count_84 ?_
            exact hret _ _ _ dX9_count_87 hf
          · replace hf := (if_neg c13).symm.trans hf
            by_cases c16 : v1 = (5 : Int32)
            · replace hf := (if_pos c16).symm.trans hf
              refine lv_tableIn (tgt := 88) hx hb dX9_count_1 (by rw [c16]; decide) (by rw [c16]; decide) (by rw [c16]; rfl) (by decide) ?_
              refine lv_aload_n hx hb dX9_count_88 rfl (lv_at hl 0 rfl) ?_
              obtain ⟨x17, h17, hf⟩ := Option.bind_eq_some_iff.mp hf
              refine r_gR hx hb hts inX9 hown hK hR rfl 0 (by decide) (hts _ tw_1_132) h17 dX9_count_89 ?_
              obtain ⟨x18, h18, hf⟩ := Option.bind_eq_some_iff.mp hf
              refine r_gI hx hb hts inX0 hown hK hR rfl 6 (by decide) (hts _ tw_1_57) h18 dX9_count_92 ?_
              exact hret _ _ _ dX9_count_95 hf
            · replace hf := (if_neg c16).symm.trans hf
              by_cases c19 : v1 = (6 : Int32)
              · replace hf := (if_pos c19).symm.trans hf
                refine lv_tableIn (tgt := 96) hx hb dX9_count_1 (by rw [c19]; decide) (by rw [c19]; decide) (by rw [c19]; rfl) (by decide) ?_
                refine lv_aload_n hx hb dX9_count_96 rfl (lv_at hl 0 rfl) ?_
                obtain ⟨x20, h20, hf⟩ := Option.bind_eq_some_iff.mp hf
                refine r_gR hx hb hts inX9 hown hK hR rfl 0 (by decide) (hts _ tw_1_132) h20 dX9_count_97 ?_
                obtain ⟨x21, h21, hf⟩ := Option.bind_eq_some_iff.mp hf
                obtain ⟨x22, h22, hf⟩ := Option.bind_eq_some_iff.mp hf
                refine r_callV (As := []) (rest := []) (st1 := [.int x22]) ⟨hx, hb, hml, hown, hts⟩ (kX0_allNeeds l G ρ x20 _ h22) (cu_V hts tw_3_165 tw_3_162 tw_3_163 tw_3_164 tw_1_2 hdX0_allNeeds rfl rfl ⟨Nat.le_of_ble_eq_true rfl, Nat.le_of_ble_eq_true rfl⟩) hK hR rfl h21 rfl hl.1 rfl (Nat.le_of_ble_eq_true rfl) dX9_count_100 ⟨Nat.zero_le _, Nat.zero_le _⟩ rfl ?_
                exact hret _ _ _ dX9_count_103 hf
              · replace hf := (if_neg c19).symm.trans hf
                by_cases c23 : v1 = (7 : Int32)
                · replace hf := (if_pos c23).symm.trans hf
                  refine lv_tableIn (tgt := 104) hx hb dX9_count_1 (by rw [c23]; decide) (by rw [c23]; decide) (by rw [c23]; rfl) (by decide) ?_
                  refine lv_aload_n hx hb dX9_count_104 rfl (lv_at hl 0 rfl) ?_
                  obtain ⟨x24, h24, hf⟩ := Option.bind_eq_some_iff.mp hf
                  refine r_gR hx hb hts inX9 hown hK hR rfl 0 (by decide) (hts _ tw_1_132) h24 dX9_count_105 ?_
                  refine lv_aload_n hx hb dX9_count_108 rfl (lv_at hl 0 rfl) ?_
                  obtain ⟨x25, h25, hf⟩ := Option.bind_eq_some_iff.mp hf
                  refine r_gR hx hb hts inX9 hown hK hR rfl 0 (by decide) (hts _ tw_1_132) h25 dX9_count_109 ?_
                  obtain ⟨x26, h26, hf⟩ := Option.bind_eq_some_iff.mp hf
                  refine r_gI hx hb hts inX0 hown hK hR rfl 7 (by decide) (hts _ tw_1_62) h26 dX9_count_112 ?_
                  obtain ⟨x27, h27, hf⟩ := Option.bind_eq_some_iff.mp hf
                  obtain ⟨x28, h28, hf⟩ := Option.bind_eq_some_iff.mp hf
                  refine r_callV (As := [.int x26]) (rest := []) (st1 := [.int x28]) ⟨hx, hb, hml, hown, hts⟩ (kX0_wholeLight l G ρ x24 x26 _ h28) (cu_V hts tw_2_153 tw_3_166 tw_2_151 tw_2_152 tw_1_2 hdX0_wholeLight rfl rfl ⟨Nat.le_of_ble_eq_true rfl, Nat.le_of_ble_eq_true rfl⟩) hK hR rfl h27 rfl hl.1 rfl (Nat.le_of_ble_eq_true rfl) dX9_count_115 ⟨Nat.zero_le _, Nat.zero_le _⟩ rfl ?_
                  exact hret _ _ _ dX9_count_118 hf
                · replace hf := (if_neg c23).symm.trans hf
                  refine r_tabD (tgt := 119) hx hb dX9_count_1 rfl (fun j hj => ?_) (by decide) ?_
                  · replace hj : j < 8 := hj
                    rcases (show j = 0 ∨ j = 1 ∨ j = 2 ∨ j = 3 ∨ j = 4 ∨ j = 5 ∨ j = 6 ∨ j = 7 by omega) with rfl | rfl | rfl | rfl | rfl | rfl | rfl | rfl
                    · exact Or.inr (lv_neT c1 rfl)
                    · exact Or.inr (lv_neT c4 rfl)
                    · exact Or.inr (lv_neT c7 rfl)
                    · exact Or.inr (lv_neT c10 rfl)
                    · exact Or.inr (lv_neT c13 rfl)
                    · exact Or.inr (lv_neT c16 rfl)
                    · exact Or.inr (lv_neT c19 rfl)
                    · exact Or.inr (lv_neT c23 rfl)
                  refine lv_iconst (v := (-1)) hx hb dX9_count_119 (by decide) ?_
                  exact hret _ _ _ dX9_count_120 hf
/-! BrickedUpAsBlind.keep(IIII)I -/
def fX9_keep (ρ : Rho) (v0 : Nat) (v1 : Int32) (v2 : Int32) (v3 : Int32) (v4 : Int32) : Option (Int32 × Rho) :=
    (fX9_isShelf ρ v1).bind fun x1 =>
    if x1 = 0 then (some ((-1), ρ))
    else ((fX9_isZeroOrOne ρ v2).bind fun x3 =>
    if x3 = 0 then (some ((-1), ρ))
    else (if v2 = 0 then ((gR ρ 2 v0 3).bind fun x14 =>
    (ldR ρ x14 v1).bind fun x15 =>
    (ckO ρ 1 x15).bind fun x16 =>
    (fX6_clearOut ρ x15).bind fun x17 =>
    some (0, x17))
    else ((fX1_isKind ρ v3).bind fun x6 =>
    if x6 = 0 then (some ((-1), ρ))
    else ((fX1_isFigure ρ v4).bind fun x8 =>
    if x8 = 0 then (some ((-1), ρ))
    else ((gR ρ 2 v0 3).bind fun x10 =>
    (ldR ρ x10 v1).bind fun x11 =>
    (ckO ρ 1 x11).bind fun x12 =>
    (fX6_holdKind ρ x11 v3 v4).bind fun x13 =>
    some (0, x13))))))
abbrev rX9_keep : Room := { frames := 1, cells := 0, slots := 0, locals := 22 }
theorem hdX9_keep : hdP yX9_keep 4 := by unfold hdP; decide +kernel
set_option maxHeartbeats 4000000 in
set_option maxRecDepth 100000 in
theorem kX9_keep (l : Launch) (G : GD) (ρ : Rho) (v0 : Nat) (v1 : Int32) (v2 : Int32) (v3 : Int32) (v4 : Int32) (r0 : Int32) (ρ1 : Rho) (hf : fX9_keep ρ v0 v1 v2 v3 v4 = some (r0, ρ1)) : WM l G yX9_keep (Cond.code yX9_keep cX9_keep 5 (some .int) :: LW) rX9_keep ρ [.ref v0, .int v1, .int v2, .int v3, .int v4] (some (.int r0)) ρ1 := by
  obtain ⟨r, hr⟩ : ∃ r, r = (r0, ρ1) := ⟨_, rfl⟩
  rw [← hr] at hf
  refine WM.ofI (own := RX9) (r := r) hr (by decide) rfl (Nat.le_of_ble_eq_true rfl) ?_
  intro p e s m args below meth c H locs Q hx hb hml hown hts hK hR hS hret ls hl
  obtain ⟨ρ0, hρ0⟩ : ∃ z, z = ρ := ⟨_, rfl⟩
  rw [← hρ0] at hret
  replace hS : WS ρ0 s.heap ρ H locs := hρ0 ▸ hS
  replace hl : lv_has ls 5 [(0, .ref v0), (1, .int v1), (2, .int v2), (3, .int v3), (4, .int v4)] := hl
  unfold fX9_keep at hf
  refine lv_iload_n hx hb dX9_keep_0 rfl (lv_at hl 1 rfl) ?_
  obtain ⟨x1, h1, hf⟩ := Option.bind_eq_some_iff.mp hf
  refine r_callS (As := [.int v1]) (rest := []) (st1 := [.int x1]) ⟨hx, hb, hml, hown, hts⟩ (kX9_isShelf l G ρ v1 _ h1) (cu_S hts tw_1_154 tw_1_152 tw_1_153 tw_1_1 hdX9_isShelf rfl rfl ⟨Nat.le_of_ble_eq_true rfl, Nat.le_of_ble_eq_true rfl⟩) hK hR rfl hl.1 rfl (Nat.le_of_ble_eq_true rfl) dX9_keep_1 ⟨Nat.zero_le _, Nat.zero_le _⟩ rfl ?_
  refine lv_if_eq (tgt := 14) hx hb dX9_keep_4 (by decide) (fun c2 => ?_) (fun c2 => ?_)
  · replace hf := (if_pos c2).symm.trans hf
    refine lv_iconst (v := (-1)) hx hb dX9_keep_14 (by decide) ?_
    exact hret _ _ _ _ _ _ dX9_keep_15 hR hS hf
  · replace hf := (if_neg c2).symm.trans hf
    refine lv_iload_n hx hb dX9_keep_7 rfl (lv_at hl 2 rfl) ?_
    obtain ⟨x3, h3, hf⟩ := Option.bind_eq_some_iff.mp hf
    refine r_callS (As := [.int v2]) (rest := []) (st1 := [.int x3]) ⟨hx, hb, hml, hown, hts⟩ (kX9_isZeroOrOne l G ρ v2 _ h3) (cu_S hts tw_2_121 tw_2_119 tw_2_120 tw_1_1 hdX9_isZeroOrOne rfl rfl ⟨Nat.le_of_ble_eq_true rfl, Nat.le_of_ble_eq_true rfl⟩) hK hR rfl hl.1 rfl (Nat.le_of_ble_eq_true rfl) dX9_keep_8 ⟨Nat.zero_le _, Nat.zero_le _⟩ rfl ?_
    refine lv_if_ne (tgt := 16) hx hb dX9_keep_11 (by decide) (fun c4 => ?_) (fun c4 => ?_)
    · replace hf := (if_neg c4).symm.trans hf
      refine lv_iload_n hx hb dX9_keep_16 rfl (lv_at hl 2 rfl) ?_
      refine lv_if_ne (tgt := 31) hx hb dX9_keep_17 (by decide) (fun c5 => ?_) (fun c5 => ?_)
      · replace hf := (if_neg c5).symm.trans hf
        refine lv_iload_n hx hb dX9_keep_31 rfl (lv_at hl 3 rfl) ?_
        obtain ⟨x6, h6, hf⟩ := Option.bind_eq_some_iff.mp hf
        refine r_callS (As := [.int v3]) (rest := []) (st1 := [.int x6]) ⟨hx, hb, hml, hown, hts⟩ (kX1_isKind l G ρ v3 _ h6) (cu_S hts tw_1_197 tw_3_175 tw_1_196 tw_1_7 hdX1_isKind rfl rfl ⟨Nat.le_of_ble_eq_true rfl, Nat.le_of_ble_eq_true rfl⟩) hK hR rfl hl.1 rfl (Nat.le_of_ble_eq_true rfl) dX9_keep_32 ⟨Nat.zero_le _, Nat.zero_le _⟩ rfl ?_
        refine lv_if_eq (tgt := 46) hx hb dX9_keep_35 (by decide) (fun c7 => ?_) (fun c7 => ?_)
        · replace hf := (if_pos c7).symm.trans hf
          refine lv_iconst (v := (-1)) hx hb dX9_keep_46 (by decide) ?_
          exact hret _ _ _ _ _ _ dX9_keep_47 hR hS hf
        · replace hf := (if_neg c7).symm.trans hf
          refine lv_iload hx hb dX9_keep_38 (lv_at hl 4 rfl) ?_
          obtain ⟨x8, h8, hf⟩ := Option.bind_eq_some_iff.mp hf
          refine r_callS (As := [.int v4]) (rest := []) (st1 := [.int x8]) ⟨hx, hb, hml, hown, hts⟩ (kX1_isFigure l G ρ v4 _ h8) (cu_S hts tw_1_200 tw_3_73 tw_1_199 tw_1_7 hdX1_isFigure rfl rfl ⟨Nat.le_of_ble_eq_true rfl, Nat.le_of_ble_eq_true rfl⟩) hK hR rfl hl.1 rfl (Nat.le_of_ble_eq_true rfl) dX9_keep_40 ⟨Nat.zero_le _, Nat.zero_le _⟩ rfl ?_
          refine lv_if_ne (tgt := 48) hx hb dX9_keep_43 (by decide) (fun c9 => ?_) (fun c9 => ?_)
          · replace hf := (if_neg c9).symm.trans hf
            refine lv_aload_n hx hb dX9_keep_48 rfl (lv_at hl 0 rfl) ?_
            obtain ⟨x10, h10, hf⟩ := Option.bind_eq_some_iff.mp hf
            refine r_gR hx hb hts inX9 hown hK hR rfl 3 (by decide) (hts _ tw_1_135) h10 dX9_keep_49 ?_
            refine lv_iload_n hx hb dX9_keep_52 rfl (lv_at hl 1 rfl) ?_
            obtain ⟨x11, h11, hf⟩ := Option.bind_eq_some_iff.mp hf
            refine r_ldR hx hb hK hR h11 dX9_keep_53 ?_
            refine lv_iload_n hx hb dX9_keep_54 rfl (lv_at hl 3 rfl) ?_
            refine lv_iload hx hb dX9_keep_55 (lv_at hl 4 rfl) ?_
            obtain ⟨x12, h12, hf⟩ := Option.bind_eq_some_iff.mp hf
            obtain ⟨x13, h13, hf⟩ := Option.bind_eq_some_iff.mp hf
            refine w_callV (As := [.int v3, .int v4]) (rest := []) (st1 := []) ⟨hx, hb, hml, hown, hts⟩ (kX6_holdKind l G ρ x11 v3 v4 _ h13) (cu_V hts tw_3_179 tw_3_176 tw_3_177 tw_3_178 tw_1_3 hdX6_holdKind rfl rfl ⟨Nat.le_of_ble_eq_true rfl, Nat.le_of_ble_eq_true rfl⟩) hK hR hS rfl h12 rfl hl.1 rfl (Nat.le_of_ble_eq_true rfl) dX9_keep_57 ⟨Nat.zero_le _, Nat.zero_le _⟩ rfl (fun H locs hR hS => ?_)
            refine lv_iconst (v := 0) hx hb dX9_keep_60 (by decide) ?_
            exact hret _ _ _ _ _ _ dX9_keep_61 hR hS hf
          · replace hf := (if_pos c9).symm.trans hf
            refine lv_iconst (v := (-1)) hx hb dX9_keep_46 (by decide) ?_
            exact hret _ _ _ _ _ _ dX9_keep_47 hR hS hf
      · replace hf := (if_pos c5).symm.trans hf
        refine lv_aload_n hx hb dX9_keep_20 rfl (lv_at hl 0 rfl) ?_
        obtain ⟨x14, h14, hf⟩ := Option.bind_eq_some_iff.mp hf
        refine r_gR hx hb hts inX9 hown hK hR rfl 3 (by decide) (hts _ tw_1_135) h14 dX9_keep_21 ?_
        refine lv_iload_n hx hb dX9_keep_24 rfl (lv_at hl 1 rfl) ?_
        obtain ⟨x15, h15, hf⟩ := Option.bind_eq_some_iff.mp hf
        refine r_ldR hx hb hK hR h15 dX9_keep_25 ?_
        obtain ⟨x16, h16, hf⟩ := Option.bind_eq_some_iff.mp hf
        obtain ⟨x17, h17, hf⟩ := Option.bind_eq_some_iff.mp hf
        refine w_callV (As := []) (rest := []) (st1 := []) ⟨hx, hb, hml, hown, hts⟩ (kX6_clearOut l G ρ x15 _ h17) (cu_V hts tw_3_174 tw_3_171 tw_3_172 tw_3_173 tw_1_3 hdX6_clearOut rfl rfl ⟨Nat.le_of_ble_eq_true rfl, Nat.le_of_ble_eq_true rfl⟩) hK hR hS rfl h16 rfl hl.1 rfl (Nat.le_of_ble_eq_true rfl) dX9_keep_26 ⟨Nat.zero_le _, Nat.zero_le _⟩ rfl (fun H locs hR hS => ?_)
        refine lv_iconst (v := 0) hx hb dX9_keep_29 (by decide) ?_
        exact hret _ _ _ _ _ _ dX9_keep_30 hR hS hf
    · replace hf := (if_pos c4).symm.trans hf
      refine lv_iconst (v := (-1)) hx hb dX9_keep_14 (by decide) ?_
      exact hret _ _ _ _ _ _ dX9_keep_15 hR hS hf
/-! BrickedUpAsBlind.row(III)I -/
def fX9_row (ρ : Rho) (v0 : Nat) (v1 : Int32) (v2 : Int32) (v3 : Int32) : Option (Int32 × Rho) :=
    (fX9_isShelf ρ v1).bind fun x1 =>
    if x1 = 0 then (some ((-1), ρ))
    else ((fX6_isSort ρ v2).bind fun x3 =>
    if x3 = 0 then (some ((-1), ρ))
    else (if v3 ≤ 100 then (if (0 : Int32) ≤ v3 then ((gR ρ 2 v0 3).bind fun x7 =>
    (ldR ρ x7 v1).bind fun x8 =>
    (ckO ρ 1 x8).bind fun x9 =>
    (fX6_holdRow ρ x8 v2 v3).bind fun x10 =>
    some (0, x10))
    else (some ((-14), ρ)))
    else (some ((-1), ρ))))
abbrev rX9_row : Room := { frames := 1, cells := 0, slots := 0, locals := 23 }
theorem hdX9_row : hdP yX9_row 3 := by unfold hdP; decide +kernel
set_option maxHeartbeats 4000000 in
set_option maxRecDepth 100000 in
theorem kX9_row (l : Launch) (G : GD) (ρ : Rho) (v0 : Nat) (v1 : Int32) (v2 : Int32) (v3 : Int32) (r0 : Int32) (ρ1 : Rho) (hf : fX9_row ρ v0 v1 v2 v3 = some (r0, ρ1)) : WM l G yX9_row (Cond.code yX9_row cX9_row 4 (some .int) :: LW) rX9_row ρ [.ref v0, .int v1, .int v2, .int v3] (some (.int r0)) ρ1 := by
  obtain ⟨r, hr⟩ : ∃ r, r = (r0, ρ1) := ⟨_, rfl⟩
  rw [← hr] at hf
  refine WM.ofI (own := RX9) (r := r) hr (by decide) rfl (Nat.le_of_ble_eq_true rfl) ?_
  intro p e s m args below meth c H locs Q hx hb hml hown hts hK hR hS hret ls hl
  obtain ⟨ρ0, hρ0⟩ : ∃ z, z = ρ := ⟨_, rfl⟩
  rw [← hρ0] at hret
  replace hS : WS ρ0 s.heap ρ H locs := hρ0 ▸ hS
  replace hl : lv_has ls 4 [(0, .ref v0), (1, .int v1), (2, .int v2), (3, .int v3)] := hl
  unfold fX9_row at hf
  refine lv_iload_n hx hb dX9_row_0 rfl (lv_at hl 1 rfl) ?_
  obtain ⟨x1, h1, hf⟩ := Option.bind_eq_some_iff.mp hf
  refine r_callS (As := [.int v1]) (rest := []) (st1 := [.int x1]) ⟨hx, hb, hml, hown, hts⟩ (kX9_isShelf l G ρ v1 _ h1) (cu_S hts tw_1_154 tw_1_152 tw_1_153 tw_1_1 hdX9_isShelf rfl rfl ⟨Nat.le_of_ble_eq_true rfl, Nat.le_of_ble_eq_true rfl⟩) hK hR rfl hl.1 rfl (Nat.le_of_ble_eq_true rfl) dX9_row_1 ⟨Nat.zero_le _, Nat.zero_le _⟩ rfl ?_
  refine lv_if_eq (tgt := 20) hx hb dX9_row_4 (by decide) (fun c2 => ?_) (fun c2 => ?_)
  · replace hf := (if_pos c2).symm.trans hf
    refine lv_iconst (v := (-1)) hx hb dX9_row_20 (by decide) ?_
    exact hret _ _ _ _ _ _ dX9_row_21 hR hS hf
  · replace hf := (if_neg c2).symm.trans hf
    refine lv_iload_n hx hb dX9_row_7 rfl (lv_at hl 2 rfl) ?_
    obtain ⟨x3, h3, hf⟩ := Option.bind_eq_some_iff.mp hf
    refine r_callS (As := [.int v2]) (rest := []) (st1 := [.int x3]) ⟨hx, hb, hml, hown, hts⟩ (kX6_isSort l G ρ v2 _ h3) (cu_S hts tw_3_186 tw_3_184 tw_3_185 tw_1_3 hdX6_isSort rfl rfl ⟨Nat.le_of_ble_eq_true rfl, Nat.le_of_ble_eq_true rfl⟩) hK hR rfl hl.1 rfl (Nat.le_of_ble_eq_true rfl) dX9_row_8 ⟨Nat.zero_le _, Nat.zero_le _⟩ rfl ?_
    refine lv_if_eq (tgt := 20) hx hb dX9_row_11 (by decide) (fun c4 => ?_) (fun c4 => ?_)
    · replace hf := (if_pos c4).symm.trans hf
      refine lv_iconst (v := (-1)) hx hb dX9_row_20 (by decide) ?_
      exact hret _ _ _ _ _ _ dX9_row_21 hR hS hf
    · replace hf := (if_neg c4).symm.trans hf
      refine lv_iload_n hx hb dX9_row_14 rfl (lv_at hl 3 rfl) ?_
      refine lv_bipush (v := 100) hx hb dX9_row_15 (by decide) ?_
      refine lv_icmp_le (tgt := 22) hx hb dX9_row_17 (by decide) (fun c5 => ?_) (fun c5 => ?_)
      · replace hf := (if_pos c5).symm.trans hf
        refine lv_iload_n hx hb dX9_row_22 rfl (lv_at hl 3 rfl) ?_
        refine lv_if_ge (tgt := 29) hx hb dX9_row_23 (by decide) (fun c6 => ?_) (fun c6 => ?_)
        · replace hf := (if_pos c6).symm.trans hf
          refine lv_aload_n hx hb dX9_row_29 rfl (lv_at hl 0 rfl) ?_
          obtain ⟨x7, h7, hf⟩ := Option.bind_eq_some_iff.mp hf
          refine r_gR hx hb hts inX9 hown hK hR rfl 3 (by decide) (hts _ tw_1_135) h7 dX9_row_30 ?_
          refine lv_iload_n hx hb dX9_row_33 rfl (lv_at hl 1 rfl) ?_
          obtain ⟨x8, h8, hf⟩ := Option.bind_eq_some_iff.mp hf
          refine r_ldR hx hb hK hR h8 dX9_row_34 ?_
          refine lv_iload_n hx hb dX9_row_35 rfl (lv_at hl 2 rfl) ?_
          refine lv_iload_n hx hb dX9_row_36 rfl (lv_at hl 3 rfl) ?_
          obtain ⟨x9, h9, hf⟩ := Option.bind_eq_some_iff.mp hf
          obtain ⟨x10, h10, hf⟩ := Option.bind_eq_some_iff.mp hf
          refine w_callV (As := [.int v2, .int v3]) (rest := []) (st1 := []) ⟨hx, hb, hml, hown, hts⟩ (kX6_holdRow l G ρ x8 v2 v3 _ h10) (cu_V hts tw_3_190 tw_3_187 tw_3_188 tw_3_189 tw_1_3 hdX6_holdRow rfl rfl ⟨Nat.le_of_ble_eq_true rfl, Nat.le_of_ble_eq_true rfl⟩) hK hR hS rfl h9 rfl hl.1 rfl (Nat.le_of_ble_eq_true rfl) dX9_row_37 ⟨Nat.zero_le _, Nat.zero_le _⟩ rfl (fun H locs hR hS => ?_)
          refine lv_iconst (v := 0) hx hb dX9_row_40 (by decide) ?_
          exact hret _ _ _ _ _ _ dX9_row_41 hR hS hf
        · replace hf := (if_neg c6).symm.trans hf
          refine lv_bipush (v := (-14)) hx hb dX9_row_26 (by decide) ?_
          exact hret _ _ _ _ _ _ dX9_row_28 hR hS hf
      · replace hf := (if_neg c5).symm.trans hf
        refine lv_iconst (v := (-1)) hx hb dX9_row_20 (by decide) ?_
        exact hret _ _ _ _ _ _ dX9_row_21 hR hS hf
/-! BrickedUpAsBlind.put(III)I -/
def fX9_put (ρ : Rho) (v0 : Nat) (v1 : Int32) (v2 : Int32) (v3 : Int32) : Option (Int32 × Rho) :=
    (fX9_isShelf ρ v1).bind fun x1 =>
    if x1 = 0 then (some ((-1), ρ))
    else ((gR ρ 2 v0 3).bind fun x3 =>
    (ldR ρ x3 v1).bind fun x4 =>
    (ckO ρ 1 x4).bind fun x5 =>
    (fX6_refusalAsRow ρ x4).bind fun x6 =>
    if (0 : Int32) ≤ x6 then ((ckO ρ 1 x4).bind fun x8 =>
    (fX6_isPlace ρ x4 v2).bind fun x9 =>
    if x9 = 0 then (some ((-13), ρ))
    else ((ckO ρ 1 x4).bind fun x11 =>
    (fX6_write ρ x4 v2 v3).bind fun x12 =>
    some (0, x12)))
    else (some (x6, ρ)))
abbrev rX9_put : Room := { frames := 1, cells := 0, slots := 0, locals := 22 }
theorem hdX9_put : hdP yX9_put 3 := by unfold hdP; decide +kernel
set_option maxHeartbeats 4000000 in
set_option maxRecDepth 100000 in
theorem kX9_put (l : Launch) (G : GD) (ρ : Rho) (v0 : Nat) (v1 : Int32) (v2 : Int32) (v3 : Int32) (r0 : Int32) (ρ1 : Rho) (hf : fX9_put ρ v0 v1 v2 v3 = some (r0, ρ1)) : WM l G yX9_put (Cond.code yX9_put cX9_put 6 (some .int) :: LW) rX9_put ρ [.ref v0, .int v1, .int v2, .int v3] (some (.int r0)) ρ1 := by
  obtain ⟨r, hr⟩ : ∃ r, r = (r0, ρ1) := ⟨_, rfl⟩
  rw [← hr] at hf
  refine WM.ofI (own := RX9) (r := r) hr (by decide) rfl (Nat.le_of_ble_eq_true rfl) ?_
  intro p e s m args below meth c H locs Q hx hb hml hown hts hK hR hS hret ls hl
  obtain ⟨ρ0, hρ0⟩ : ∃ z, z = ρ := ⟨_, rfl⟩
  rw [← hρ0] at hret
  replace hS : WS ρ0 s.heap ρ H locs := hρ0 ▸ hS
  replace hl : lv_has ls 6 [(0, .ref v0), (1, .int v1), (2, .int v2), (3, .int v3)] := hl
  unfold fX9_put at hf
  refine lv_iload_n hx hb dX9_put_0 rfl (lv_at hl 1 rfl) ?_
  obtain ⟨x1, h1, hf⟩ := Option.bind_eq_some_iff.mp hf
  refine r_callS (As := [.int v1]) (rest := []) (st1 := [.int x1]) ⟨hx, hb, hml, hown, hts⟩ (kX9_isShelf l G ρ v1 _ h1) (cu_S hts tw_1_154 tw_1_152 tw_1_153 tw_1_1 hdX9_isShelf rfl rfl ⟨Nat.le_of_ble_eq_true rfl, Nat.le_of_ble_eq_true rfl⟩) hK hR rfl hl.1 rfl (Nat.le_of_ble_eq_true rfl) dX9_put_1 ⟨Nat.zero_le _, Nat.zero_le _⟩ rfl ?_
  refine lv_if_ne (tgt := 9) hx hb dX9_put_4 (by decide) (fun c2 => ?_) (fun c2 => ?_)
  · replace hf := (if_neg c2).symm.trans hf
    refine lv_aload_n hx hb dX9_put_9 rfl (lv_at hl 0 rfl) ?_
    obtain ⟨x3, h3, hf⟩ := Option.bind_eq_some_iff.mp hf
    refine r_gR hx hb hts inX9 hown hK hR rfl 3 (by decide) (hts _ tw_1_135) h3 dX9_put_10 ?_
    refine lv_iload_n hx hb dX9_put_13 rfl (lv_at hl 1 rfl) ?_
    obtain ⟨x4, h4, hf⟩ := Option.bind_eq_some_iff.mp hf
    refine r_ldR hx hb hK hR h4 dX9_put_14 ?_
    refine lv_astore (lv' := [(4, .ref x4), (0, .ref v0), (1, .int v1), (2, .int v2), (3, .int v3)]) hx hb dX9_put_15 hl (by decide) rfl (fun ls hl => ?_)
    refine lv_aload hx hb dX9_put_17 (lv_at hl 0 rfl) ?_
    obtain ⟨x5, h5, hf⟩ := Option.bind_eq_some_iff.mp hf
    obtain ⟨x6, h6, hf⟩ := Option.bind_eq_some_iff.mp hf
    refine r_callV (As := []) (rest := []) (st1 := [.int x6]) ⟨hx, hb, hml, hown, hts⟩ (kX6_refusalAsRow l G ρ x4 _ h6) (cu_V hts tw_1_158 tw_1_155 tw_1_156 tw_1_157 tw_1_3 hdX6_refusalAsRow rfl rfl ⟨Nat.le_of_ble_eq_true rfl, Nat.le_of_ble_eq_true rfl⟩) hK hR rfl h5 rfl hl.1 rfl (Nat.le_of_ble_eq_true rfl) dX9_put_19 ⟨Nat.zero_le _, Nat.zero_le _⟩ rfl ?_
    refine lv_istore (lv' := [(5, .int x6), (4, .ref x4), (0, .ref v0), (1, .int v1), (2, .int v2), (3, .int v3)]) hx hb dX9_put_22 hl (by decide) rfl (fun ls hl => ?_)
    refine lv_iload hx hb dX9_put_24 (lv_at hl 0 rfl) ?_
    refine lv_if_ge (tgt := 32) hx hb dX9_put_26 (by decide) (fun c7 => ?_) (fun c7 => ?_)
    · replace hf := (if_pos c7).symm.trans hf
      refine lv_aload hx hb dX9_put_32 (lv_at hl 1 rfl) ?_
      refine lv_iload_n hx hb dX9_put_34 rfl (lv_at hl 4 rfl) ?_
      obtain ⟨x8, h8, hf⟩ := Option.bind_eq_some_iff.mp hf
      obtain ⟨x9, h9, hf⟩ := Option.bind_eq_some_iff.mp hf
      refine r_callV (As := [.int v2]) (rest := []) (st1 := [.int x9]) ⟨hx, hb, hml, hown, hts⟩ (kX6_isPlace l G ρ x4 v2 _ h9) (cu_V hts tw_1_168 tw_3_195 tw_1_166 tw_1_167 tw_1_3 hdX6_isPlace rfl rfl ⟨Nat.le_of_ble_eq_true rfl, Nat.le_of_ble_eq_true rfl⟩) hK hR rfl h8 rfl hl.1 rfl (Nat.le_of_ble_eq_true rfl) dX9_put_35 ⟨Nat.zero_le _, Nat.zero_le _⟩ rfl ?_
      refine lv_if_ne (tgt := 44) hx hb dX9_put_38 (by decide) (fun c10 => ?_) (fun c10 => ?_)
      · replace hf := (if_neg c10).symm.trans hf
        refine lv_aload hx hb dX9_put_44 (lv_at hl 1 rfl) ?_
        refine lv_iload_n hx hb dX9_put_46 rfl (lv_at hl 4 rfl) ?_
        refine lv_iload_n hx hb dX9_put_47 rfl (lv_at hl 5 rfl) ?_
        obtain ⟨x11, h11, hf⟩ := Option.bind_eq_some_iff.mp hf
        obtain ⟨x12, h12, hf⟩ := Option.bind_eq_some_iff.mp hf
        refine w_callV (As := [.int v2, .int v3]) (rest := []) (st1 := []) ⟨hx, hb, hml, hown, hts⟩ (kX6_write l G ρ x4 v2 v3 _ h12) (cu_V hts tw_3_199 tw_3_196 tw_3_197 tw_3_198 tw_1_3 hdX6_write rfl rfl ⟨Nat.le_of_ble_eq_true rfl, Nat.le_of_ble_eq_true rfl⟩) hK hR hS rfl h11 rfl hl.1 rfl (Nat.le_of_ble_eq_true rfl) dX9_put_48 ⟨Nat.zero_le _, Nat.zero_le _⟩ rfl (fun H locs hR hS => ?_)
        refine lv_iconst (v := 0) hx hb dX9_put_51 (by decide) ?_
        exact hret _ _ _ _ _ _ dX9_put_52 hR hS hf
      · replace hf := (if_pos c10).symm.trans hf
        refine lv_bipush (v := (-13)) hx hb dX9_put_41 (by decide) ?_
        exact hret _ _ _ _ _ _ dX9_put_43 hR hS hf
    · replace hf := (if_neg c7).symm.trans hf
      refine lv_iload hx hb dX9_put_29 (lv_at hl 0 rfl) ?_
      exact hret _ _ _ _ _ _ dX9_put_31 hR hS hf
  · replace hf := (if_pos c2).symm.trans hf
    refine lv_iconst (v := (-1)) hx hb dX9_put_7 (by decide) ?_
    exact hret _ _ _ _ _ _ dX9_put_8 hR hS hf
/-! BrickedUpAsBlind.copy(IIIII)I -/
def fX9_copy (ρ : Rho) (v0 : Nat) (v1 : Int32) (v2 : Int32) (v3 : Int32) (v4 : Int32) (v5 : Int32) : Option (Int32 × Rho) :=
    (fX9_isShelf ρ v1).bind fun x1 =>
    if x1 = 0 then (some ((-1), ρ))
    else ((fX9_isShelf ρ v3).bind fun x3 =>
    if x3 = 0 then (some ((-1), ρ))
    else ((gR ρ 2 v0 3).bind fun x5 =>
    (ldR ρ x5 v1).bind fun x6 =>
    (gR ρ 2 v0 3).bind fun x7 =>
    (ldR ρ x7 v3).bind fun x8 =>
    (gI ρ 1 x6 0).bind fun x9 =>
    if x9 = 0 then (some ((-11), ρ))
    else ((gI ρ 1 x8 0).bind fun x11 =>
    if x11 = 0 then (some ((-11), ρ))
    else ((gI ρ 1 x6 0).bind fun x13 =>
    if x13 = 2 then ((gI ρ 1 x8 0).bind fun x15 =>
    if x15 = 2 then ((gI ρ 1 x6 3).bind fun x17 =>
    (gI ρ 1 x8 3).bind fun x18 =>
    if x17 = x18 then ((ckO ρ 1 x6).bind fun x20 =>
    (fX6_isStretch ρ x6 v2 v5).bind fun x21 =>
    if x21 = 0 then (some ((-13), ρ))
    else ((ckO ρ 1 x8).bind fun x23 =>
    (fX6_isStretch ρ x8 v4 v5).bind fun x24 =>
    if x24 = 0 then (some ((-13), ρ))
    else ((gR ρ 1 x6 5).bind fun x26 =>
    (gR ρ 1 x8 5).bind fun x27 =>
    (cpI ρ x26 v2 x27 v4 v5).bind fun x28 =>
    some (v5, x28))))
    else (some ((-12), ρ)))
    else (some ((-12), ρ)))
    else (some ((-12), ρ))))))
abbrev rX9_copy : Room := { frames := 1, cells := 0, slots := 0, locals := 64 }
theorem hdX9_copy : hdP yX9_copy 5 := by unfold hdP; decide +kernel
set_option maxHeartbeats 4000000 in
set_option maxRecDepth 100000 in
theorem kX9_copy (l : Launch) (G : GD) (ρ : Rho) (v0 : Nat) (v1 : Int32) (v2 : Int32) (v3 : Int32) (v4 : Int32) (v5 : Int32) (r0 : Int32) (ρ1 : Rho) (hf : fX9_copy ρ v0 v1 v2 v3 v4 v5 = some (r0, ρ1)) : WM l G yX9_copy (Cond.code yX9_copy cX9_copy 8 (some .int) :: LW) rX9_copy ρ [.ref v0, .int v1, .int v2, .int v3, .int v4, .int v5] (some (.int r0)) ρ1 := by
  obtain ⟨r, hr⟩ : ∃ r, r = (r0, ρ1) := ⟨_, rfl⟩
  rw [← hr] at hf
  refine WM.ofI (own := RX9) (r := r) hr (by decide) rfl (Nat.le_of_ble_eq_true rfl) ?_
  intro p e s m args below meth c H locs Q hx hb hml hown hts hK hR hS hret ls hl
  obtain ⟨ρ0, hρ0⟩ : ∃ z, z = ρ := ⟨_, rfl⟩
  rw [← hρ0] at hret
  replace hS : WS ρ0 s.heap ρ H locs := hρ0 ▸ hS
  replace hl : lv_has ls 8 [(0, .ref v0), (1, .int v1), (2, .int v2), (3, .int v3), (4, .int v4), (5, .int v5)] := hl
  unfold fX9_copy at hf
  refine lv_iload_n hx hb dX9_copy_0 rfl (lv_at hl 1 rfl) ?_
  obtain ⟨x1, h1, hf⟩ := Option.bind_eq_some_iff.mp hf
  refine r_callS (As := [.int v1]) (rest := []) (st1 := [.int x1]) ⟨hx, hb, hml, hown, hts⟩ (kX9_isShelf l G ρ v1 _ h1) (cu_S hts tw_1_154 tw_1_152 tw_1_153 tw_1_1 hdX9_isShelf rfl rfl ⟨Nat.le_of_ble_eq_true rfl, Nat.le_of_ble_eq_true rfl⟩) hK hR rfl hl.1 rfl (Nat.le_of_ble_eq_true rfl) dX9_copy_1 ⟨Nat.zero_le _, Nat.zero_le _⟩ rfl ?_
  refine lv_if_eq (tgt := 14) hx hb dX9_copy_4 (by decide) (fun c2 => ?_) (fun c2 => ?_)
  · replace hf := (if_pos c2).symm.trans hf
    refine lv_iconst (v := (-1)) hx hb dX9_copy_14 (by decide) ?_
    exact hret _ _ _ _ _ _ dX9_copy_15 hR hS hf
  · replace hf := (if_neg c2).symm.trans hf
    refine lv_iload_n hx hb dX9_copy_7 rfl (lv_at hl 3 rfl) ?_
    obtain ⟨x3, h3, hf⟩ := Option.bind_eq_some_iff.mp hf
    refine r_callS (As := [.int v3]) (rest := []) (st1 := [.int x3]) ⟨hx, hb, hml, hown, hts⟩ (kX9_isShelf l G ρ v3 _ h3) (cu_S hts tw_1_154 tw_1_152 tw_1_153 tw_1_1 hdX9_isShelf rfl rfl ⟨Nat.le_of_ble_eq_true rfl, Nat.le_of_ble_eq_true rfl⟩) hK hR rfl hl.1 rfl (Nat.le_of_ble_eq_true rfl) dX9_copy_8 ⟨Nat.zero_le _, Nat.zero_le _⟩ rfl ?_
    refine lv_if_ne (tgt := 16) hx hb dX9_copy_11 (by decide) (fun c4 => ?_) (fun c4 => ?_)
    · replace hf := (if_neg c4).symm.trans hf
      refine lv_aload_n hx hb dX9_copy_16 rfl (lv_at hl 0 rfl) ?_
      obtain ⟨x5, h5, hf⟩ := Option.bind_eq_some_iff.mp hf
      refine r_gR hx hb hts inX9 hown hK hR rfl 3 (by decide) (hts _ tw_1_135) h5 dX9_copy_17 ?_
      refine lv_iload_n hx hb dX9_copy_20 rfl (lv_at hl 1 rfl) ?_
      obtain ⟨x6, h6, hf⟩ := Option.bind_eq_some_iff.mp hf
      refine r_ldR hx hb hK hR h6 dX9_copy_21 ?_
      refine lv_astore (lv' := [(6, .ref x6), (0, .ref v0), (1, .int v1), (2, .int v2), (3, .int v3), (4, .int v4), (5, .int v5)]) hx hb dX9_copy_22 hl (by decide) rfl (fun ls hl => ?_)
      refine lv_aload_n hx hb dX9_copy_24 rfl (lv_at hl 1 rfl) ?_
      obtain ⟨x7, h7, hf⟩ := Option.bind_eq_some_iff.mp hf
      refine r_gR hx hb hts inX9 hown hK hR rfl 3 (by decide) (hts _ tw_1_135) h7 dX9_copy_25 ?_
      refine lv_iload_n hx hb dX9_copy_28 rfl (lv_at hl 4 rfl) ?_
      obtain ⟨x8, h8, hf⟩ := Option.bind_eq_some_iff.mp hf
      refine r_ldR hx hb hK hR h8 dX9_copy_29 ?_
      refine lv_astore (lv' := [(7, .ref x8), (6, .ref x6), (0, .ref v0), (1, .int v1), (2, .int v2), (3, .int v3), (4, .int v4), (5, .int v5)]) hx hb dX9_copy_30 hl (by decide) rfl (fun ls hl => ?_)
      refine lv_aload hx hb dX9_copy_32 (lv_at hl 1 rfl) ?_
      obtain ⟨x9, h9, hf⟩ := Option.bind_eq_some_iff.mp hf
      refine r_gI hx hb hts inX6 hown hK hR rfl 0 (by decide) (hts _ tw_1_102) h9 dX9_copy_34 ?_
      refine lv_if_eq (tgt := 48) hx hb dX9_copy_37 (by decide) (fun c10 => ?_) (fun c10 => ?_)
      · replace hf := (if_pos c10).symm.trans hf
        refine lv_bipush (v := (-11)) hx hb dX9_copy_48 (by decide) ?_
        exact hret _ _ _ _ _ _ dX9_copy_50 hR hS hf
      · replace hf := (if_neg c10).symm.trans hf
        refine lv_aload hx hb dX9_copy_40 (lv_at hl 0 rfl) ?_
        obtain ⟨x11, h11, hf⟩ := Option.bind_eq_some_iff.mp hf
        refine r_gI hx hb hts inX6 hown hK hR rfl 0 (by decide) (hts _ tw_1_102) h11 dX9_copy_42 ?_
        refine lv_if_ne (tgt := 51) hx hb dX9_copy_45 (by decide) (fun c12 => ?_) (fun c12 => ?_)
        · replace hf := (if_neg c12).symm.trans hf
          refine lv_aload hx hb dX9_copy_51 (lv_at hl 1 rfl) ?_
          obtain ⟨x13, h13, hf⟩ := Option.bind_eq_some_iff.mp hf
          refine r_gI hx hb hts inX6 hown hK hR rfl 0 (by decide) (hts _ tw_1_102) h13 dX9_copy_53 ?_
          refine lv_iconst (v := 2) hx hb dX9_copy_56 (by decide) ?_
          refine lv_icmp_ne (tgt := 82) hx hb dX9_copy_57 (by decide) (fun c14 => ?_) (fun c14 => ?_)
          · replace hf := (if_neg c14).symm.trans hf
            refine lv_bipush (v := (-12)) hx hb dX9_copy_82 (by decide) ?_
            exact hret _ _ _ _ _ _ dX9_copy_84 hR hS hf
          · replace hf := (if_pos c14).symm.trans hf
            refine lv_aload hx hb dX9_copy_60 (lv_at hl 0 rfl) ?_
            obtain ⟨x15, h15, hf⟩ := Option.bind_eq_some_iff.mp hf
            refine r_gI hx hb hts inX6 hown hK hR rfl 0 (by decide) (hts _ tw_1_102) h15 dX9_copy_62 ?_
            refine lv_iconst (v := 2) hx hb dX9_copy_65 (by decide) ?_
            refine lv_icmp_ne (tgt := 82) hx hb dX9_copy_66 (by decide) (fun c16 => ?_) (fun c16 => ?_)
            · replace hf := (if_neg c16).symm.trans hf
              refine lv_bipush (v := (-12)) hx hb dX9_copy_82 (by decide) ?_
              exact hret _ _ _ _ _ _ dX9_copy_84 hR hS hf
            · replace hf := (if_pos c16).symm.trans hf
              refine lv_aload hx hb dX9_copy_69 (lv_at hl 1 rfl) ?_
              obtain ⟨x17, h17, hf⟩ := Option.bind_eq_some_iff.mp hf
              refine r_gI hx hb hts inX6 hown hK hR rfl 3 (by decide) (hts _ tw_1_108) h17 dX9_copy_71 ?_
              refine lv_aload hx hb dX9_copy_74 (lv_at hl 0 rfl) ?_
              obtain ⟨x18, h18, hf⟩ := Option.bind_eq_some_iff.mp hf
              refine r_gI hx hb hts inX6 hown hK hR rfl 3 (by decide) (hts _ tw_1_108) h18 dX9_copy_76 ?_
              refine lv_icmp_eq (tgt := 85) hx hb dX9_copy_79 (by decide) (fun c19 => ?_) (fun c19 => ?_)
              · replace hf := (if_pos c19).symm.trans hf
                refine lv_aload hx hb dX9_copy_85 (lv_at hl 1 rfl) ?_
                refine lv_iload_n hx hb dX9_copy_87 rfl (lv_at hl 4 rfl) ?_
                refine lv_iload hx hb dX9_copy_88 (lv_at hl 7 rfl) ?_
                obtain ⟨x20, h20, hf⟩ := Option.bind_eq_some_iff.mp hf
                obtain ⟨x21, h21, hf⟩ := Option.bind_eq_some_iff.mp hf
                refine r_callV (As := [.int v2, .int v5]) (rest := []) (st1 := [.int x21]) ⟨hx, hb, hml, hown, hts⟩ (kX6_isStretch l G ρ x6 v2 v5 _ h21) (cu_V hts tw_3_207 tw_3_204 tw_3_205 tw_3_206 tw_1_3 hdX6_isStretch rfl rfl ⟨Nat.le_of_ble_eq_true rfl, Nat.le_of_ble_eq_true rfl⟩) hK hR rfl h20 rfl hl.1 rfl (Nat.le_of_ble_eq_true rfl) dX9_copy_90 ⟨Nat.zero_le _, Nat.zero_le _⟩ rfl ?_
                refine lv_if_eq (tgt := 108) hx hb dX9_copy_93 (by decide) (fun c22 => ?_) (fun c22 => ?_)
                · replace hf := (if_pos c22).symm.trans hf
                  refine lv_bipush (v := (-13)) hx hb dX9_copy_108 (by decide) ?_
                  exact hret _ _ _ _ _ _ dX9_copy_110 hR hS hf
                · replace hf := (if_neg c22).symm.trans hf
                  refine lv_aload hx hb dX9_copy_96 (lv_at hl 0 rfl) ?_
                  refine lv_iload hx hb dX9_copy_98 (lv_at hl 6 rfl) ?_
                  refine lv_iload hx hb dX9_copy_100 (lv_at hl 7 rfl) ?_
                  obtain ⟨x23, h23, hf⟩ := Option.bind_eq_some_iff.mp hf
                  obtain ⟨x24, h24, hf⟩ := Option.bind_eq_some_iff.mp hf
                  refine r_callV (As := [.int v4, .int v5]) (rest := []) (st1 := [.int x24]) ⟨hx, hb, hml, hown, hts⟩ (kX6_isStretch l G ρ x8 v4 v5 _ h24) (cu_V hts tw_3_207 tw_3_204 tw_3_205 tw_3_206 tw_1_3 hdX6_isStretch rfl rfl ⟨Nat.le_of_ble_eq_true rfl, Nat.le_of_ble_eq_true rfl⟩) hK hR rfl h23 rfl hl.1 rfl (Nat.le_of_ble_eq_true rfl) dX9_copy_102 ⟨Nat.zero_le _, Nat.zero_le _⟩ rfl ?_
                  refine lv_if_ne (tgt := 111) hx hb dX9_copy_105 (by decide) (fun c25 => ?_) (fun c25 => ?_)
                  · replace hf := (if_neg c25).symm.trans hf
                    refine lv_aload hx hb dX9_copy_111 (lv_at hl 1 rfl) ?_
                    obtain ⟨x26, h26, hf⟩ := Option.bind_eq_some_iff.mp hf
                    refine r_gR hx hb hts inX6 hown hK hR rfl 5 (by decide) (hts _ tw_1_118) h26 dX9_copy_113 ?_
                    refine lv_iload_n hx hb dX9_copy_116 rfl (lv_at hl 4 rfl) ?_
                    refine lv_aload hx hb dX9_copy_117 (lv_at hl 0 rfl) ?_
                    obtain ⟨x27, h27, hf⟩ := Option.bind_eq_some_iff.mp hf
                    refine r_gR hx hb hts inX6 hown hK hR rfl 5 (by decide) (hts _ tw_1_118) h27 dX9_copy_119 ?_
                    refine lv_iload hx hb dX9_copy_122 (lv_at hl 6 rfl) ?_
                    refine lv_iload hx hb dX9_copy_124 (lv_at hl 7 rfl) ?_
                    obtain ⟨x28, h28, hf⟩ := Option.bind_eq_some_iff.mp hf
                    refine w_cpI hx hb (hml.trans hl.1.symm) hown (hts _ tw_3_208) (hts _ tw_1_181) (hts _ tw_1_180) (hts _ tw_1_6) hK hR hS h28 (Nat.le_of_ble_eq_true rfl) (Nat.le_of_ble_eq_true rfl) dX9_copy_126 (fun H locs hR hS => ?_)
                    refine lv_iload hx hb dX9_copy_129 (lv_at hl 7 rfl) ?_
                    exact hret _ _ _ _ _ _ dX9_copy_131 hR hS hf
                  · replace hf := (if_pos c25).symm.trans hf
                    refine lv_bipush (v := (-13)) hx hb dX9_copy_108 (by decide) ?_
                    exact hret _ _ _ _ _ _ dX9_copy_110 hR hS hf
              · replace hf := (if_neg c19).symm.trans hf
                refine lv_bipush (v := (-12)) hx hb dX9_copy_82 (by decide) ?_
                exact hret _ _ _ _ _ _ dX9_copy_84 hR hS hf
        · replace hf := (if_pos c12).symm.trans hf
          refine lv_bipush (v := (-11)) hx hb dX9_copy_48 (by decide) ?_
          exact hret _ _ _ _ _ _ dX9_copy_50 hR hS hf
    · replace hf := (if_pos c4).symm.trans hf
      refine lv_iconst (v := (-1)) hx hb dX9_copy_14 (by decide) ?_
      exact hret _ _ _ _ _ _ dX9_copy_15 hR hS hf
/-! BrickedUpAsBlind.cost(I)I -/
def fX9_cost (ρ : Rho) (v0 : Nat) (v1 : Int32) : Option Int32 :=
    (fX9_isShelf ρ v1).bind fun x1 =>
    if x1 = 0 then (some (-1))
    else ((gR ρ 2 v0 3).bind fun x3 =>
    (ldR ρ x3 v1).bind fun x4 =>
    (ckO ρ 1 x4).bind fun x5 =>
    (fX6_refusalAsKind ρ x4).bind fun x6 =>
    if (0 : Int32) ≤ x6 then ((gR ρ 2 v0 3).bind fun x8 =>
    (ldR ρ x8 v1).bind fun x9 =>
    (gI ρ 1 x9 1).bind fun x10 =>
    (gR ρ 2 v0 3).bind fun x11 =>
    (ldR ρ x11 v1).bind fun x12 =>
    (gI ρ 1 x12 2).bind fun x13 =>
    (fX1_price ρ x10 x13).bind fun x14 =>
    some x14)
    else (some x6))
abbrev rX9_cost : Room := { frames := 1, cells := 0, slots := 0, locals := 24 }
theorem hdX9_cost : hdP yX9_cost 1 := by unfold hdP; decide +kernel
set_option maxHeartbeats 4000000 in
set_option maxRecDepth 100000 in
theorem kX9_cost (l : Launch) (G : GD) (ρ : Rho) (v0 : Nat) (v1 : Int32) (r : Int32) (hf : fX9_cost ρ v0 v1 = some r) : RM l G yX9_cost (Cond.code yX9_cost cX9_cost 3 (some .int) :: LW) rX9_cost ρ [.ref v0, .int v1] (some (.int r)) := by
  refine RM.ofI (own := RX9) (by decide) rfl (Nat.le_of_ble_eq_true rfl) ?_
  intro p e s m args below meth c H locs Q hx hb hml hown hts hK hR hret ls hl
  replace hl : lv_has ls 3 [(0, .ref v0), (1, .int v1)] := hl
  unfold fX9_cost at hf
  refine lv_iload_n hx hb dX9_cost_0 rfl (lv_at hl 1 rfl) ?_
  obtain ⟨x1, h1, hf⟩ := Option.bind_eq_some_iff.mp hf
  refine r_callS (As := [.int v1]) (rest := []) (st1 := [.int x1]) ⟨hx, hb, hml, hown, hts⟩ (kX9_isShelf l G ρ v1 _ h1) (cu_S hts tw_1_154 tw_1_152 tw_1_153 tw_1_1 hdX9_isShelf rfl rfl ⟨Nat.le_of_ble_eq_true rfl, Nat.le_of_ble_eq_true rfl⟩) hK hR rfl hl.1 rfl (Nat.le_of_ble_eq_true rfl) dX9_cost_1 ⟨Nat.zero_le _, Nat.zero_le _⟩ rfl ?_
  refine lv_if_ne (tgt := 9) hx hb dX9_cost_4 (by decide) (fun c2 => ?_) (fun c2 => ?_)
  · replace hf := (if_neg c2).symm.trans hf
    refine lv_aload_n hx hb dX9_cost_9 rfl (lv_at hl 0 rfl) ?_
    obtain ⟨x3, h3, hf⟩ := Option.bind_eq_some_iff.mp hf
    refine r_gR hx hb hts inX9 hown hK hR rfl 3 (by decide) (hts _ tw_1_135) h3 dX9_cost_10 ?_
    refine lv_iload_n hx hb dX9_cost_13 rfl (lv_at hl 1 rfl) ?_
    obtain ⟨x4, h4, hf⟩ := Option.bind_eq_some_iff.mp hf
    refine r_ldR hx hb hK hR h4 dX9_cost_14 ?_
    obtain ⟨x5, h5, hf⟩ := Option.bind_eq_some_iff.mp hf
    obtain ⟨x6, h6, hf⟩ := Option.bind_eq_some_iff.mp hf
    refine r_callV (As := []) (rest := []) (st1 := [.int x6]) ⟨hx, hb, hml, hown, hts⟩ (kX6_refusalAsKind l G ρ x4 _ h6) (cu_V hts tw_2_73 tw_2_70 tw_2_71 tw_2_72 tw_1_3 hdX6_refusalAsKind rfl rfl ⟨Nat.le_of_ble_eq_true rfl, Nat.le_of_ble_eq_true rfl⟩) hK hR rfl h5 rfl hl.1 rfl (Nat.le_of_ble_eq_true rfl) dX9_cost_15 ⟨Nat.zero_le _, Nat.zero_le _⟩ rfl ?_
    refine lv_istore_n (lv' := [(2, .int x6), (0, .ref v0), (1, .int v1)]) hx hb dX9_cost_18 rfl hl (by decide) rfl (fun ls hl => ?_)
    refine lv_iload_n hx hb dX9_cost_19 rfl (lv_at hl 0 rfl) ?_
    refine lv_if_ge (tgt := 27) hx hb dX9_cost_20 (by decide) (fun c7 => ?_) (fun c7 => ?_)
    · replace hf := (if_pos c7).symm.trans hf
      refine lv_aload_n hx hb dX9_cost_27 rfl (lv_at hl 1 rfl) ?_
      obtain ⟨x8, h8, hf⟩ := Option.bind_eq_some_iff.mp hf
      refine r_gR hx hb hts inX9 hown hK hR rfl 3 (by decide) (hts _ tw_1_135) h8 dX9_cost_28 ?_
      refine lv_iload_n hx hb dX9_cost_31 rfl (lv_at hl 2 rfl) ?_
      obtain ⟨x9, h9, hf⟩ := Option.bind_eq_some_iff.mp hf
      refine r_ldR hx hb hK hR h9 dX9_cost_32 ?_
      obtain ⟨x10, h10, hf⟩ := Option.bind_eq_some_iff.mp hf
      refine r_gI hx hb hts inX6 hown hK hR rfl 1 (by decide) (hts _ tw_1_104) h10 dX9_cost_33 ?_
      refine lv_aload_n hx hb dX9_cost_36 rfl (lv_at hl 1 rfl) ?_
      obtain ⟨x11, h11, hf⟩ := Option.bind_eq_some_iff.mp hf
      refine r_gR hx hb hts inX9 hown hK hR rfl 3 (by decide) (hts _ tw_1_135) h11 dX9_cost_37 ?_
      refine lv_iload_n hx hb dX9_cost_40 rfl (lv_at hl 2 rfl) ?_
      obtain ⟨x12, h12, hf⟩ := Option.bind_eq_some_iff.mp hf
      refine r_ldR hx hb hK hR h12 dX9_cost_41 ?_
      obtain ⟨x13, h13, hf⟩ := Option.bind_eq_some_iff.mp hf
      refine r_gI hx hb hts inX6 hown hK hR rfl 2 (by decide) (hts _ tw_1_106) h13 dX9_cost_42 ?_
      obtain ⟨x14, h14, hf⟩ := Option.bind_eq_some_iff.mp hf
      refine r_callS (As := [.int x10, .int x13]) (rest := []) (st1 := [.int x14]) ⟨hx, hb, hml, hown, hts⟩ (kX1_price l G ρ x10 x13 _ h14) (cu_S hts tw_3_215 tw_3_213 tw_3_214 tw_1_7 hdX1_price rfl rfl ⟨Nat.le_of_ble_eq_true rfl, Nat.le_of_ble_eq_true rfl⟩) hK hR rfl hl.1 rfl (Nat.le_of_ble_eq_true rfl) dX9_cost_45 ⟨Nat.zero_le _, Nat.zero_le _⟩ rfl ?_
      exact hret _ _ _ dX9_cost_48 hf
    · replace hf := (if_neg c7).symm.trans hf
      refine lv_iload_n hx hb dX9_cost_23 rfl (lv_at hl 0 rfl) ?_
      refine lv_goto (tgt := 48) hx hb dX9_cost_24 (by decide) ?_
      exact hret _ _ _ dX9_cost_48 hf
  · replace hf := (if_pos c2).symm.trans hf
    refine lv_iconst (v := (-1)) hx hb dX9_cost_7 (by decide) ?_
    exact hret _ _ _ dX9_cost_8 hf
