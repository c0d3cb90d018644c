/-! BrickedUpAsBlind.Shelf.refusalAsRow()I -/
def fX6_refusalAsRow (ρ : Rho) (v0 : Nat) : Option Int32 :=
    (gI ρ 1 v0 0).bind fun x1 =>
    if x1 = 0 then (some (-11))
    else ((gI ρ 1 v0 0).bind fun x3 =>
    if x3 = 2 then (some 0)
    else (some (-12)))
abbrev rX6_refusalAsRow : Room := { frames := 0, cells := 0, slots := 0, locals := 0 }
theorem hdX6_refusalAsRow : hdP yX6_refusalAsRow 0 := by unfold hdP; decide +kernel
set_option maxHeartbeats 4000000 in
set_option maxRecDepth 100000 in
theorem kX6_refusalAsRow (l : Launch) (G : GD) (ρ : Rho) (v0 : Nat) (r : Int32) (hf : fX6_refusalAsRow ρ v0 = some r) : RM l G yX6_refusalAsRow (Cond.code yX6_refusalAsRow cX6_refusalAsRow 1 (some .int) :: LW) rX6_refusalAsRow ρ [.ref v0] (some (.int r)) := by
  refine RM.ofI (own := RX6) (by decide) rfl (Nat.le_of_ble_eq_true rfl) ?_
  intro p e s m args below meth c H locs Q hx hb hml hown hts hK hR hret ls hl
  replace hl : lv_has ls 1 [(0, .ref v0)] := hl
  unfold fX6_refusalAsRow at hf
  refine lv_aload_n hx hb dX6_refusalAsRow_0 rfl (lv_at hl 0 rfl) ?_
  obtain ⟨x1, h1, hf⟩ := Option.bind_eq_some_iff.mp hf
  refine r_gI hx hb hts inX6 hown hK hR rfl 0 (by decide) (hts _ tw_1_101) h1 dX6_refusalAsRow_1 ?_
  refine lv_if_ne (tgt := 10) hx hb dX6_refusalAsRow_4 (by decide) (fun c2 => ?_) (fun c2 => ?_)
  · replace hf := (if_neg c2).symm.trans hf
    refine lv_aload_n hx hb dX6_refusalAsRow_10 rfl (lv_at hl 0 rfl) ?_
    obtain ⟨x3, h3, hf⟩ := Option.bind_eq_some_iff.mp hf
    refine r_gI hx hb hts inX6 hown hK hR rfl 0 (by decide) (hts _ tw_1_101) h3 dX6_refusalAsRow_11 ?_
    refine lv_iconst (v := 2) hx hb dX6_refusalAsRow_14 (by decide) ?_
    refine lv_icmp_ne (tgt := 22) hx hb dX6_refusalAsRow_15 (by decide) (fun c4 => ?_) (fun c4 => ?_)
    · replace hf := (if_neg c4).symm.trans hf
      refine lv_bipush (v := (-12)) hx hb dX6_refusalAsRow_22 (by decide) ?_
      exact hret _ _ _ dX6_refusalAsRow_24 hf
    · replace hf := (if_pos c4).symm.trans hf
      refine lv_iconst (v := 0) hx hb dX6_refusalAsRow_18 (by decide) ?_
      refine lv_goto (tgt := 24) hx hb dX6_refusalAsRow_19 (by decide) ?_
      exact hret _ _ _ dX6_refusalAsRow_24 hf
  · replace hf := (if_pos c2).symm.trans hf
    refine lv_bipush (v := (-11)) hx hb dX6_refusalAsRow_7 (by decide) ?_
    exact hret _ _ _ dX6_refusalAsRow_9 hf
/-! BrickedUpAsBlind.Shelf.isPlace(I)Z -/
def fX6_isPlace (ρ : Rho) (v0 : Nat) (v1 : Int32) : Option Int32 :=
    if v1 < 0 then (nb 0)
    else ((gI ρ 1 v0 4).bind fun x2 =>
    if x2 ≤ v1 then (nb 0)
    else (nb 1))
abbrev rX6_isPlace : Room := { frames := 0, cells := 0, slots := 0, locals := 0 }
theorem hdX6_isPlace : hdP yX6_isPlace 1 := by unfold hdP; decide +kernel
set_option maxHeartbeats 4000000 in
set_option maxRecDepth 100000 in
theorem kX6_isPlace (l : Launch) (G : GD) (ρ : Rho) (v0 : Nat) (v1 : Int32) (r : Int32) (hf : fX6_isPlace ρ v0 v1 = some r) : RM l G yX6_isPlace (Cond.code yX6_isPlace cX6_isPlace 2 (some .boolean) :: LW) rX6_isPlace ρ [.ref v0, .int v1] (some (.int r)) := by
  refine RM.ofZ (own := RX6) (by decide) rfl (Nat.le_of_ble_eq_true rfl) ?_
  intro p e s m args below meth c H locs Q hx hb hml hown hts hK hR hret ls hl
  replace hl : lv_has ls 2 [(0, .ref v0), (1, .int v1)] := hl
  unfold fX6_isPlace at hf
  refine lv_iload_n hx hb dX6_isPlace_0 rfl (lv_at hl 1 rfl) ?_
  refine lv_if_lt (tgt := 16) hx hb dX6_isPlace_1 (by decide) (fun c1 => ?_) (fun c1 => ?_)
  · replace hf := (if_pos c1).symm.trans hf
    refine lv_iconst (v := 0) hx hb dX6_isPlace_16 (by decide) ?_
    exact hret _ _ _ dX6_isPlace_17 hf
  · replace hf := (if_neg c1).symm.trans hf
    refine lv_iload_n hx hb dX6_isPlace_4 rfl (lv_at hl 1 rfl) ?_
    refine lv_aload_n hx hb dX6_isPlace_5 rfl (lv_at hl 0 rfl) ?_
    obtain ⟨x2, h2, hf⟩ := Option.bind_eq_some_iff.mp hf
    refine r_gI hx hb hts inX6 hown hK hR rfl 4 (by decide) (hts _ tw_1_109) h2 dX6_isPlace_6 ?_
    refine lv_icmp_ge (tgt := 16) hx hb dX6_isPlace_9 (by decide) (fun c3 => ?_) (fun c3 => ?_)
    · replace hf := (if_pos c3).symm.trans hf
      refine lv_iconst (v := 0) hx hb dX6_isPlace_16 (by decide) ?_
      exact hret _ _ _ dX6_isPlace_17 hf
    · replace hf := (if_neg c3).symm.trans hf
      refine lv_iconst (v := 1) hx hb dX6_isPlace_12 (by decide) ?_
      refine lv_goto (tgt := 17) hx hb dX6_isPlace_13 (by decide) ?_
      exact hret _ _ _ dX6_isPlace_17 hf
/-! BrickedUpAsBlind.Text.digitsBehind(I)I -/
def fX7_digitsBehind (ρ : Rho) (v0 : Int32) : Option Int32 :=
    if v0 = (104 : Int32) then (some 2)
    else (if v0 = (110 : Int32) then (some 3)
    else (if v0 = (112 : Int32) then (some 3)
    else (if v0 = (114 : Int32) then (some 1)
    else (if v0 = (115 : Int32) then (some 1)
    else (if v0 = (119 : Int32) then (some 5)
    else (if v0 = (121 : Int32) then (some 2)
    else (some 0)))))))
abbrev rX7_digitsBehind : Room := { frames := 0, cells := 0, slots := 0, locals := 0 }
theorem hdX7_digitsBehind : hdP yX7_digitsBehind 1 := by unfold hdP; decide +kernel
set_option maxHeartbeats 4000000 in
set_option maxRecDepth 100000 in
theorem kX7_digitsBehind (l : Launch) (G : GD) (ρ : Rho) (v0 : Int32) (r : Int32) (hf : fX7_digitsBehind ρ v0 = some r) : RM l G yX7_digitsBehind (Cond.code yX7_digitsBehind cX7_digitsBehind 1 (some .int) :: LW) rX7_digitsBehind ρ [.int v0] (some (.int r)) := by
  refine RM.ofI (own := RX7) (by decide) rfl (Nat.le_of_ble_eq_true rfl) ?_
  intro p e s m args below meth c H locs Q hx hb hml hown hts hK hR hret ls hl
  replace hl : lv_has ls 1 [(0, .int v0)] := hl
  unfold fX7_digitsBehind at hf
  refine lv_iload_n hx hb dX7_digitsBehind_0 rfl (lv_at hl 0 rfl) ?_
  by_cases c1 : v0 = (104 : Int32)
  · replace hf := (if_pos c1).symm.trans hf
    refine lv_tableIn (tgt := 92) hx hb dX7_digitsBehind_1 (by rw [c1]; decide) (by rw [c1]; decide) (by rw [c1]; rfl) (by decide) ?_
    refine lv_iconst (v := 2) hx hb dX7_digitsBehind_92 (by decide) ?_
    exact hret _ _ _ dX7_digitsBehind_93 hf
  · replace hf := (if_neg c1).symm.trans hf
    by_cases c2 : v0 = (110 : Int32)
    · replace hf := (if_pos c2).symm.trans hf
      refine lv_tableIn (tgt := 90) hx hb dX7_digitsBehind_1 (by rw [c2]; decide) (by rw [c2]; decide) (by rw [c2]; rfl) (by decide) ?_
      refine lv_iconst (v := 3) hx hb dX7_digitsBehind_90 (by decide) ?_
      exact hret _ _ _ dX7_digitsBehind_91 hf
    · replace hf := (if_neg c2).symm.trans hf
      by_cases c3 : v0 = (112 : Int32)
      · replace hf := (if_pos c3).symm.trans hf
        refine lv_tableIn (tgt := 90) hx hb dX7_digitsBehind_1 (by rw [c3]; decide) (by rw [c3]; decide) (by rw [c3]; rfl) (by decide) ?_
        refine lv_iconst (v := 3) hx hb dX7_digitsBehind_90 (by decide) ?_
        exact hret _ _ _ dX7_digitsBehind_91 hf
      · replace hf := (if_neg c3).symm.trans hf
        by_cases c4 : v0 = (114 : Int32)
        · replace hf := (if_pos c4).symm.trans hf
          refine lv_tableIn (tgt := 94) hx hb dX7_digitsBehind_1 (by rw [c4]; decide) (by rw [c4]; decide) (by rw [c4]; rfl) (by decide) ?_
          refine lv_iconst (v := 1) hx hb dX7_digitsBehind_94 (by decide) ?_
          exact hret _ _ _ dX7_digitsBehind_95 hf
        · replace hf := (if_neg c4).symm.trans hf
          by_cases c5 : v0 = (115 : Int32)
          · replace hf := (if_pos c5).symm.trans hf
            refine lv_tableIn (tgt := 94) hx hb dX7_digitsBehind_1 (by rw [c5]; decide) (by rw [c5]; decide) (by rw [c5]; rfl) (by decide) ?_
            refine lv_iconst (v := 1) hx hb dX7_digitsBehind_94 (by decide) ?_
            exact hret _ _ _ dX7_digitsBehind_95 hf
          · replace hf := (if_neg c5).symm.trans hf
            by_cases c6 : v0 = (119 : Int32)
            · replace hf := (if_pos c6).symm.trans hf
              refine lv_tableIn (tgt := 88) hx hb dX7_digitsBehind_1 (by rw [c6]; decide) (by rw [c6]; decide) (by rw [c6]; rfl) (by decide) ?_
              refine lv_iconst (v := 5) hx hb dX7_digitsBehind_88 (by decide) ?_
              exact hret _ _ _ dX7_digitsBehind_89 hf
            · replace hf := (if_neg c6).symm.trans hf
              by_cases c7 : v0 = (121 : Int32)
              · replace hf := (if_pos c7).symm.trans hf
                refine lv_tableIn (tgt := 92) hx hb dX7_digitsBehind_1 (by rw [c7]; decide) (by rw [c7]; decide) (by rw [c7]; rfl) (by decide) ?_
                refine lv_iconst (v := 2) hx hb dX7_digitsBehind_92 (by decide) ?_
                exact hret _ _ _ dX7_digitsBehind_93 hf
              · replace hf := (if_neg c7).symm.trans hf
                refine r_tabD (tgt := 96) hx hb dX7_digitsBehind_1 rfl (fun j hj => ?_) (by decide) ?_
                · replace hj : j < 18 := hj
                  rcases (show j = 0 ∨ j = 1 ∨ j = 2 ∨ j = 3 ∨ j = 4 ∨ j = 5 ∨ j = 6 ∨ j = 7 ∨ j = 8 ∨ j = 9 ∨ j = 10 ∨ j = 11 ∨ j = 12 ∨ j = 13 ∨ j = 14 ∨ j = 15 ∨ j = 16 ∨ j = 17 by omega) with rfl | rfl | rfl | rfl | rfl | rfl | rfl | rfl | rfl | rfl | rfl | rfl | rfl | rfl | rfl | rfl | rfl | rfl
                  · exact Or.inr (lv_neT c1 rfl)
                  · exact Or.inl rfl
                  · exact Or.inl rfl
                  · exact Or.inl rfl
                  · exact Or.inl rfl
                  · exact Or.inl rfl
                  · exact Or.inr (lv_neT c2 rfl)
                  · exact Or.inl rfl
                  · exact Or.inr (lv_neT c3 rfl)
                  · exact Or.inl rfl
                  · exact Or.inr (lv_neT c4 rfl)
                  · exact Or.inr (lv_neT c5 rfl)
                  · exact Or.inl rfl
                  · exact Or.inl rfl
                  · exact Or.inl rfl
                  · exact Or.inr (lv_neT c6 rfl)
                  · exact Or.inl rfl
                  · exact Or.inr (lv_neT c7 rfl)
                refine lv_iconst (v := 0) hx hb dX7_digitsBehind_96 (by decide) ?_
                exact hret _ _ _ dX7_digitsBehind_97 hf
/-! BrickedUpAsBlind.Text.isDigit(I)Z -/
def fX7_isDigit (ρ : Rho) (v0 : Int32) : Option Int32 :=
    if v0 < 48 then (nb 0)
    else (if (57 : Int32) < v0 then (nb 0)
    else (nb 1))
abbrev rX7_isDigit : Room := { frames := 0, cells := 0, slots := 0, locals := 0 }
theorem hdX7_isDigit : hdP yX7_isDigit 1 := by unfold hdP; decide +kernel
set_option maxHeartbeats 4000000 in
set_option maxRecDepth 100000 in
theorem kX7_isDigit (l : Launch) (G : GD) (ρ : Rho) (v0 : Int32) (r : Int32) (hf : fX7_isDigit ρ v0 = some r) : RM l G yX7_isDigit (Cond.code yX7_isDigit cX7_isDigit 1 (some .boolean) :: LW) rX7_isDigit ρ [.int v0] (some (.int r)) := by
  refine RM.ofZ (own := RX7) (by decide) rfl (Nat.le_of_ble_eq_true rfl) ?_
  intro p e s m args below meth c H locs Q hx hb hml hown hts hK hR hret ls hl
  replace hl : lv_has ls 1 [(0, .int v0)] := hl
  unfold fX7_isDigit at hf
  refine lv_iload_n hx hb dX7_isDigit_0 rfl (lv_at hl 0 rfl) ?_
  refine lv_bipush (v := 48) hx hb dX7_isDigit_1 (by decide) ?_
  refine lv_icmp_lt (tgt := 16) hx hb dX7_isDigit_3 (by decide) (fun c1 => ?_) (fun c1 => ?_)
  · replace hf := (if_pos c1).symm.trans hf
    refine lv_iconst (v := 0) hx hb dX7_isDigit_16 (by decide) ?_
    exact hret _ _ _ dX7_isDigit_17 hf
  · replace hf := (if_neg c1).symm.trans hf
    refine lv_iload_n hx hb dX7_isDigit_6 rfl (lv_at hl 0 rfl) ?_
    refine lv_bipush (v := 57) hx hb dX7_isDigit_7 (by decide) ?_
    refine lv_icmp_gt (tgt := 16) hx hb dX7_isDigit_9 (by decide) (fun c2 => ?_) (fun c2 => ?_)
    · replace hf := (if_pos c2).symm.trans hf
      refine lv_iconst (v := 0) hx hb dX7_isDigit_16 (by decide) ?_
      exact hret _ _ _ dX7_isDigit_17 hf
    · replace hf := (if_neg c2).symm.trans hf
      refine lv_iconst (v := 1) hx hb dX7_isDigit_12 (by decide) ?_
      refine lv_goto (tgt := 17) hx hb dX7_isDigit_13 (by decide) ?_
      exact hret _ _ _ dX7_isDigit_17 hf
/-! BrickedUpAsBlind.Text.faultyByteOfStatement(LBrickedUpAsBlind$Shelf;I)I -/
def fX7_faultyByteOfStatement_33 (ρ : Rho) : Nat → Nat → Int32 → Int32 → Int32 → Option Int32
  | 0, _, _, _, _ => none
  | n + 1, v0, v1, v2, v3 =>
    if (v1 + v2) < v3 then ((ckO ρ 1 v0).bind fun x2 =>
    (fX6_isPlace ρ v0 ((v1 + v2) + 1)).bind fun x3 =>
    if x3 = 0 then ((gI ρ 1 v0 4).bind fun x8 =>
    some x8)
    else ((gR ρ 1 v0 5).bind fun x5 =>
    (ldI ρ x5 ((v1 + v2) + 1)).bind fun x6 =>
    if x6 = 59 then (some (-1))
    else (some ((v1 + v2) + 1))))
    else ((ckO ρ 1 v0).bind fun x9 =>
    (fX6_isPlace ρ v0 v3).bind fun x10 =>
    if x10 = 0 then ((gI ρ 1 v0 4).bind fun x16 =>
    some x16)
    else ((gR ρ 1 v0 5).bind fun x12 =>
    (ldI ρ x12 v3).bind fun x13 =>
    (fX7_isDigit ρ x13).bind fun x14 =>
    if x14 = 0 then (some v3)
    else (fX7_faultyByteOfStatement_33 ρ n v0 v1 v2 (v3 + 1))))
def fX7_faultyByteOfStatement (ρ : Rho) (v0 : Nat) (v1 : Int32) : Option Int32 :=
    (ckO ρ 1 v0).bind fun x17 =>
    (fX6_isPlace ρ v0 v1).bind fun x18 =>
    if x18 = 0 then ((gI ρ 1 v0 4).bind fun x24 =>
    some x24)
    else ((gR ρ 1 v0 5).bind fun x20 =>
    (ldI ρ x20 v1).bind fun x21 =>
    (fX7_digitsBehind ρ x21).bind fun x22 =>
    if x22 = 0 then (some v1)
    else (fX7_faultyByteOfStatement_33 ρ FU v0 v1 x22 (v1 + 1)))
abbrev rX7_faultyByteOfStatement : Room := { frames := 1, cells := 0, slots := 0, locals := 21 }
theorem hdX7_faultyByteOfStatement : hdP yX7_faultyByteOfStatement 2 := by unfold hdP; decide +kernel
set_option maxHeartbeats 4000000 in
set_option maxRecDepth 100000 in
theorem kX7_faultyByteOfStatement (l : Launch) (G : GD) (ρ : Rho) (v0 : Nat) (v1 : Int32) (r : Int32) (hf : fX7_faultyByteOfStatement ρ v0 v1 = some r) : RM l G yX7_faultyByteOfStatement (Cond.code yX7_faultyByteOfStatement cX7_faultyByteOfStatement 4 (some .int) :: LW) rX7_faultyByteOfStatement ρ [.ref v0, .int v1] (some (.int r)) := by
  refine RM.ofI (own := RX7) (by decide) rfl (Nat.le_of_ble_eq_true rfl) ?_
  intro p e s m args below meth c H locs Q hx hb hml hown hts hK hR hret ls hl
  replace hl : lv_has ls 4 [(0, .ref v0), (1, .int v1)] := hl
  have L33 : ∀ (n : Nat) (v0 : Nat) (v1 : Int32) (v2 : Int32) (v3 : Int32) (ls : Array Slot), fX7_faultyByteOfStatement_33 ρ n v0 v1 v2 v3 = some r → lv_has ls 4 [(0, .ref v0), (1, .int v1), (2, .int v2), (3, .int v3)] → W p l e rX7_faultyByteOfStatement s m args below meth c H locs 0 0 Q (F0 m 33 ls []) := by
    intro n
    induction n with
    | zero =>
      intro v0 v1 v2 v3 ls hf
      rw [fX7_faultyByteOfStatement_33] at hf
      cases hf
    | succ n ih =>
      intro v0 v1 v2 v3 ls hf hl
      rw [fX7_faultyByteOfStatement_33] at hf
      refine lv_iload_n hx hb dX7_faultyByteOfStatement_33 rfl (lv_at hl 3 rfl) ?_
      refine lv_iload_n hx hb dX7_faultyByteOfStatement_34 rfl (lv_at hl 1 rfl) ?_
      refine lv_iload_n hx hb dX7_faultyByteOfStatement_35 rfl (lv_at hl 2 rfl) ?_
      refine lv_iadd hx hb dX7_faultyByteOfStatement_36 ?_
      refine lv_icmp_gt (tgt := 73) hx hb dX7_faultyByteOfStatement_37 (by decide) (fun c1 => ?_) (fun c1 => ?_)
      · replace hf := (if_pos c1).symm.trans hf
        refine lv_iload_n hx hb dX7_faultyByteOfStatement_73 rfl (lv_at hl 1 rfl) ?_
        refine lv_iload_n hx hb dX7_faultyByteOfStatement_74 rfl (lv_at hl 2 rfl) ?_
        refine lv_iadd hx hb dX7_faultyByteOfStatement_75 ?_
        refine lv_iconst (v := 1) hx hb dX7_faultyByteOfStatement_76 (by decide) ?_
        refine lv_iadd hx hb dX7_faultyByteOfStatement_77 ?_
        refine lv_istore_n (lv' := [(3, .int ((v1 + v2) + 1)), (0, .ref v0), (1, .int v1), (2, .int v2)]) hx hb dX7_faultyByteOfStatement_78 rfl hl (by decide) rfl (fun ls hl => ?_)
        refine lv_aload_n hx hb dX7_faultyByteOfStatement_79 rfl (lv_at hl 1 rfl) ?_
        refine lv_iload_n hx hb dX7_faultyByteOfStatement_80 rfl (lv_at hl 0 rfl) ?_
        obtain ⟨x2, h2, hf⟩ := Option.bind_eq_some_iff.mp hf
        obtain ⟨x3, h3, hf⟩ := Option.bind_eq_some_iff.mp hf
        refine r_callV (As := [.int ((v1 + v2) + 1)]) (rest := []) (st1 := [.int x3]) ⟨hx, hb, hml, hown, hts⟩ (kX6_isPlace l G ρ v0 ((v1 + v2) + 1) _ h3) (cu_V hts tw_1_168 tw_1_165 tw_1_166 tw_1_167 tw_1_3 hdX6_isPlace rfl rfl ⟨Nat.le_of_ble_eq_true rfl, Nat.le_of_ble_eq_true rfl⟩) hK hR rfl h2 rfl hl.1 rfl (Nat.le_of_ble_eq_true rfl) dX7_faultyByteOfStatement_81 ⟨Nat.zero_le _, Nat.zero_le _⟩ rfl ?_
        refine lv_if_ne (tgt := 92) hx hb dX7_faultyByteOfStatement_84 (by decide) (fun c4 => ?_) (fun c4 => ?_)
        · replace hf := (if_neg c4).symm.trans hf
          refine lv_aload_n hx hb dX7_faultyByteOfStatement_92 rfl (lv_at hl 1 rfl) ?_
          obtain ⟨x5, h5, hf⟩ := Option.bind_eq_some_iff.mp hf
          refine r_gR hx hb hts inX6 hown hK hR rfl 5 (by decide) (hts _ tw_1_115) h5 dX7_faultyByteOfStatement_93 ?_
          refine lv_iload_n hx hb dX7_faultyByteOfStatement_96 rfl (lv_at hl 0 rfl) ?_
          obtain ⟨x6, h6, hf⟩ := Option.bind_eq_some_iff.mp hf
          refine r_ldI hx hb hK hR h6 dX7_faultyByteOfStatement_97 ?_
          refine lv_bipush (v := 59) hx hb dX7_faultyByteOfStatement_98 (by decide) ?_
          refine lv_icmp_ne (tgt := 107) hx hb dX7_faultyByteOfStatement_100 (by decide) (fun c7 => ?_) (fun c7 => ?_)
          · replace hf := (if_neg c7).symm.trans hf
            refine lv_iload_n hx hb dX7_faultyByteOfStatement_107 rfl (lv_at hl 0 rfl) ?_
            exact hret _ _ _ dX7_faultyByteOfStatement_108 hf
          · replace hf := (if_pos c7).symm.trans hf
            refine lv_iconst (v := (-1)) hx hb dX7_faultyByteOfStatement_103 (by decide) ?_
            refine lv_goto (tgt := 108) hx hb dX7_faultyByteOfStatement_104 (by decide) ?_
            exact hret _ _ _ dX7_faultyByteOfStatement_108 hf
        · replace hf := (if_pos c4).symm.trans hf
          refine lv_aload_n hx hb dX7_faultyByteOfStatement_87 rfl (lv_at hl 1 rfl) ?_
          obtain ⟨x8, h8, hf⟩ := Option.bind_eq_some_iff.mp hf
          refine r_gI hx hb hts inX6 hown hK hR rfl 4 (by decide) (hts _ tw_1_110) h8 dX7_faultyByteOfStatement_88 ?_
          exact hret _ _ _ dX7_faultyByteOfStatement_91 hf
      · replace hf := (if_neg c1).symm.trans hf
        refine lv_aload_n hx hb dX7_faultyByteOfStatement_40 rfl (lv_at hl 0 rfl) ?_
        refine lv_iload_n hx hb dX7_faultyByteOfStatement_41 rfl (lv_at hl 3 rfl) ?_
        obtain ⟨x9, h9, hf⟩ := Option.bind_eq_some_iff.mp hf
        obtain ⟨x10, h10, hf⟩ := Option.bind_eq_some_iff.mp hf
        refine r_callV (As := [.int v3]) (rest := []) (st1 := [.int x10]) ⟨hx, hb, hml, hown, hts⟩ (kX6_isPlace l G ρ v0 v3 _ h10) (cu_V hts tw_1_168 tw_1_165 tw_1_166 tw_1_167 tw_1_3 hdX6_isPlace rfl rfl ⟨Nat.le_of_ble_eq_true rfl, Nat.le_of_ble_eq_true rfl⟩) hK hR rfl h9 rfl hl.1 rfl (Nat.le_of_ble_eq_true rfl) dX7_faultyByteOfStatement_42 ⟨Nat.zero_le _, Nat.zero_le _⟩ rfl ?_
        refine lv_if_ne (tgt := 53) hx hb dX7_faultyByteOfStatement_45 (by decide) (fun c11 => ?_) (fun c11 => ?_)
        · replace hf := (if_neg c11).symm.trans hf
          refine lv_aload_n hx hb dX7_faultyByteOfStatement_53 rfl (lv_at hl 0 rfl) ?_
          obtain ⟨x12, h12, hf⟩ := Option.bind_eq_some_iff.mp hf
          refine r_gR hx hb hts inX6 hown hK hR rfl 5 (by decide) (hts _ tw_1_115) h12 dX7_faultyByteOfStatement_54 ?_
          refine lv_iload_n hx hb dX7_faultyByteOfStatement_57 rfl (lv_at hl 3 rfl) ?_
          obtain ⟨x13, h13, hf⟩ := Option.bind_eq_some_iff.mp hf
          refine r_ldI hx hb hK hR h13 dX7_faultyByteOfStatement_58 ?_
          obtain ⟨x14, h14, hf⟩ := Option.bind_eq_some_iff.mp hf
          refine r_callS (As := [.int x13]) (rest := []) (st1 := [.int x14]) ⟨hx, hb, hml, hown, hts⟩ (kX7_isDigit l G ρ x13 _ h14) (cu_S hts tw_1_174 tw_1_172 tw_1_173 tw_1_5 hdX7_isDigit rfl rfl ⟨Nat.le_of_ble_eq_true rfl, Nat.le_of_ble_eq_true rfl⟩) hK hR rfl hl.1 rfl (Nat.le_of_ble_eq_true rfl) dX7_faultyByteOfStatement_59 ⟨Nat.zero_le _, Nat.zero_le _⟩ rfl ?_
          refine lv_if_ne (tgt := 67) hx hb dX7_faultyByteOfStatement_62 (by decide) (fun c15 => ?_) (fun c15 => ?_)
          · replace hf := (if_neg c15).symm.trans hf
            refine lv_iinc (v := (v3 + 1)) (lv' := [(3, .int (v3 + 1)), (0, .ref v0), (1, .int v1), (2, .int v2)]) hx hb dX7_faultyByteOfStatement_67 hl (k := 3) rfl rfl (by decide) rfl (fun ls hl => ?_)
            refine lv_goto (tgt := 33) hx hb dX7_faultyByteOfStatement_70 (by decide) ?_
            exact ih v0 v1 v2 (v3 + 1) ls hf (lv_sub hl [1, 2, 3, 0] rfl)
          · replace hf := (if_pos c15).symm.trans hf
            refine lv_iload_n hx hb dX7_faultyByteOfStatement_65 rfl (lv_at hl 3 rfl) ?_
            exact hret _ _ _ dX7_faultyByteOfStatement_66 hf
        · replace hf := (if_pos c11).symm.trans hf
          refine lv_aload_n hx hb dX7_faultyByteOfStatement_48 rfl (lv_at hl 0 rfl) ?_
          obtain ⟨x16, h16, hf⟩ := Option.bind_eq_some_iff.mp hf
          refine r_gI hx hb hts inX6 hown hK hR rfl 4 (by decide) (hts _ tw_1_110) h16 dX7_faultyByteOfStatement_49 ?_
          exact hret _ _ _ dX7_faultyByteOfStatement_52 hf
  unfold fX7_faultyByteOfStatement at hf
  refine lv_aload_n hx hb dX7_faultyByteOfStatement_0 rfl (lv_at hl 0 rfl) ?_
  refine lv_iload_n hx hb dX7_faultyByteOfStatement_1 rfl (lv_at hl 1 rfl) ?_
  obtain ⟨x17, h17, hf⟩ := Option.bind_eq_some_iff.mp hf
  obtain ⟨x18, h18, hf⟩ := Option.bind_eq_some_iff.mp hf
  refine r_callV (As := [.int v1]) (rest := []) (st1 := [.int x18]) ⟨hx, hb, hml, hown, hts⟩ (kX6_isPlace l G ρ v0 v1 _ h18) (cu_V hts tw_1_168 tw_1_165 tw_1_166 tw_1_167 tw_1_3 hdX6_isPlace rfl rfl ⟨Nat.le_of_ble_eq_true rfl, Nat.le_of_ble_eq_true rfl⟩) hK hR rfl h17 rfl hl.1 rfl (Nat.le_of_ble_eq_true rfl) dX7_faultyByteOfStatement_2 ⟨Nat.zero_le _, Nat.zero_le _⟩ rfl ?_
  refine lv_if_ne (tgt := 13) hx hb dX7_faultyByteOfStatement_5 (by decide) (fun c19 => ?_) (fun c19 => ?_)
  · replace hf := (if_neg c19).symm.trans hf
    refine lv_aload_n hx hb dX7_faultyByteOfStatement_13 rfl (lv_at hl 0 rfl) ?_
    obtain ⟨x20, h20, hf⟩ := Option.bind_eq_some_iff.mp hf
    refine r_gR hx hb hts inX6 hown hK hR rfl 5 (by decide) (hts _ tw_1_115) h20 dX7_faultyByteOfStatement_14 ?_
    refine lv_iload_n hx hb dX7_faultyByteOfStatement_17 rfl (lv_at hl 1 rfl) ?_
    obtain ⟨x21, h21, hf⟩ := Option.bind_eq_some_iff.mp hf
    refine r_ldI hx hb hK hR h21 dX7_faultyByteOfStatement_18 ?_
    obtain ⟨x22, h22, hf⟩ := Option.bind_eq_some_iff.mp hf
    refine r_callS (As := [.int x21]) (rest := []) (st1 := [.int x22]) ⟨hx, hb, hml, hown, hts⟩ (kX7_digitsBehind l G ρ x21 _ h22) (cu_S hts tw_1_171 tw_1_169 tw_1_170 tw_1_5 hdX7_digitsBehind rfl rfl ⟨Nat.le_of_ble_eq_true rfl, Nat.le_of_ble_eq_true rfl⟩) hK hR rfl hl.1 rfl (Nat.le_of_ble_eq_true rfl) dX7_faultyByteOfStatement_19 ⟨Nat.zero_le _, Nat.zero_le _⟩ rfl ?_
    refine lv_istore_n (lv' := [(2, .int x22), (0, .ref v0), (1, .int v1)]) hx hb dX7_faultyByteOfStatement_22 rfl hl (by decide) rfl (fun ls hl => ?_)
    refine lv_iload_n hx hb dX7_faultyByteOfStatement_23 rfl (lv_at hl 0 rfl) ?_
    refine lv_if_ne (tgt := 29) hx hb dX7_faultyByteOfStatement_24 (by decide) (fun c23 => ?_) (fun c23 => ?_)
    · replace hf := (if_neg c23).symm.trans hf
      refine lv_iload_n hx hb dX7_faultyByteOfStatement_29 rfl (lv_at hl 2 rfl) ?_
      refine lv_iconst (v := 1) hx hb dX7_faultyByteOfStatement_30 (by decide) ?_
      refine lv_iadd hx hb dX7_faultyByteOfStatement_31 ?_
      refine lv_istore_n (lv' := [(3, .int (v1 + 1)), (2, .int x22), (0, .ref v0), (1, .int v1)]) hx hb dX7_faultyByteOfStatement_32 rfl hl (by decide) rfl (fun ls hl => ?_)
      exact L33 FU v0 v1 x22 (v1 + 1) ls hf (lv_sub hl [2, 3, 1, 0] rfl)
    · replace hf := (if_pos c23).symm.trans hf
      refine lv_iload_n hx hb dX7_faultyByteOfStatement_27 rfl (lv_at hl 2 rfl) ?_
      exact hret _ _ _ dX7_faultyByteOfStatement_28 hf
  · replace hf := (if_pos c19).symm.trans hf
    refine lv_aload_n hx hb dX7_faultyByteOfStatement_8 rfl (lv_at hl 0 rfl) ?_
    obtain ⟨x24, h24, hf⟩ := Option.bind_eq_some_iff.mp hf
    refine r_gI hx hb hts inX6 hown hK hR rfl 4 (by decide) (hts _ tw_1_110) h24 dX7_faultyByteOfStatement_9 ?_
    exact hret _ _ _ dX7_faultyByteOfStatement_12 hf
/-! BrickedUpAsBlind.Text.faultyByte(LBrickedUpAsBlind$Shelf;)I -/
def fX7_faultyByte_2 (ρ : Rho) : Nat → Nat → Int32 → Option Int32
  | 0, _, _ => none
  | n + 1, v0, v1 =>
    (fX7_faultyByteOfStatement ρ v0 v1).bind fun x1 =>
    if x1 = (-1) then ((gR ρ 1 v0 5).bind fun x3 =>
    (ldI ρ x3 v1).bind fun x4 =>
    (fX7_digitsBehind ρ x4).bind fun x5 =>
    (gI ρ 1 v0 4).bind fun x6 =>
    if (v1 + (x5 + 2)) < x6 then (fX7_faultyByte_2 ρ n v0 (v1 + (x5 + 2)))
    else (some (-1)))
    else (some x1)
def fX7_faultyByte (ρ : Rho) (v0 : Nat) : Option Int32 :=
    fX7_faultyByte_2 ρ FU v0 0
abbrev rX7_faultyByte : Room := { frames := 2, cells := 0, slots := 0, locals := 44 }
theorem hdX7_faultyByte : hdP yX7_faultyByte 1 := by unfold hdP; decide +kernel
set_option maxHeartbeats 4000000 in
set_option maxRecDepth 100000 in
theorem kX7_faultyByte (l : Launch) (G : GD) (ρ : Rho) (v0 : Nat) (r : Int32) (hf : fX7_faultyByte ρ v0 = some r) : RM l G yX7_faultyByte (Cond.code yX7_faultyByte cX7_faultyByte 3 (some .int) :: LW) rX7_faultyByte ρ [.ref v0] (some (.int r)) := by
  refine RM.ofI (own := RX7) (by decide) rfl (Nat.le_of_ble_eq_true rfl) ?_
  intro p e s m args below meth c H locs Q hx hb hml hown hts hK hR hret ls hl
  replace hl : lv_has ls 3 [(0, .ref v0)] := hl
  have L2 : ∀ (n : Nat) (v0 : Nat) (v1 : Int32) (ls : Array Slot), fX7_faultyByte_2 ρ n v0 v1 = some r → lv_has ls 3 [(0, .ref v0), (1, .int v1)] → W p l e rX7_faultyByte s m args below meth c H locs 0 0 Q (F0 m 2 ls []) := by
    intro n
    induction n with
    | zero =>
      intro v0 v1 ls hf
      rw [fX7_faultyByte_2] at hf
      cases hf
    | succ n ih =>
      intro v0 v1 ls hf hl
      rw [fX7_faultyByte_2] at hf
      refine lv_aload_n hx hb dX7_faultyByte_2 rfl (lv_at hl 0 rfl) ?_
      refine lv_iload_n hx hb dX7_faultyByte_3 rfl (lv_at hl 1 rfl) ?_
      obtain ⟨x1, h1, hf⟩ := Option.bind_eq_some_iff.mp hf
      refine r_callS (As := [.ref v0, .int v1]) (rest := []) (st1 := [.int x1]) ⟨hx, hb, hml, hown, hts⟩ (kX7_faultyByteOfStatement l G ρ v0 v1 _ h1) (cu_S hts tw_1_164 tw_1_162 tw_1_163 tw_1_5 hdX7_faultyByteOfStatement rfl rfl ⟨Nat.le_of_ble_eq_true rfl, Nat.le_of_ble_eq_true rfl⟩) hK hR rfl hl.1 rfl (Nat.le_of_ble_eq_true rfl) dX7_faultyByte_4 ⟨Nat.zero_le _, Nat.zero_le _⟩ rfl ?_
      refine lv_istore_n (lv' := [(2, .int x1), (0, .ref v0), (1, .int v1)]) hx hb dX7_faultyByte_7 rfl hl (by decide) rfl (fun ls hl => ?_)
      refine lv_iload_n hx hb dX7_faultyByte_8 rfl (lv_at hl 0 rfl) ?_
      refine lv_iconst (v := (-1)) hx hb dX7_faultyByte_9 (by decide) ?_
      refine lv_icmp_eq (tgt := 15) hx hb dX7_faultyByte_10 (by decide) (fun c2 => ?_) (fun c2 => ?_)
      · replace hf := (if_pos c2).symm.trans hf
        refine lv_iload_n hx hb dX7_faultyByte_15 rfl (lv_at hl 2 rfl) ?_
        refine lv_aload_n hx hb dX7_faultyByte_16 rfl (lv_at hl 1 rfl) ?_
        obtain ⟨x3, h3, hf⟩ := Option.bind_eq_some_iff.mp hf
        refine r_gR hx hb hts inX6 hown hK hR rfl 5 (by decide) (hts _ tw_1_115) h3 dX7_faultyByte_17 ?_
        refine lv_iload_n hx hb dX7_faultyByte_20 rfl (lv_at hl 2 rfl) ?_
        obtain ⟨x4, h4, hf⟩ := Option.bind_eq_some_iff.mp hf
        refine r_ldI hx hb hK hR h4 dX7_faultyByte_21 ?_
        obtain ⟨x5, h5, hf⟩ := Option.bind_eq_some_iff.mp hf
        refine r_callS (As := [.int x4]) (rest := [.int v1]) (st1 := [.int x5, .int v1]) ⟨hx, hb, hml, hown, hts⟩ (kX7_digitsBehind l G ρ x4 _ h5) (cu_S hts tw_1_171 tw_1_169 tw_1_170 tw_1_5 hdX7_digitsBehind rfl rfl ⟨Nat.le_of_ble_eq_true rfl, Nat.le_of_ble_eq_true rfl⟩) hK hR rfl hl.1 rfl (Nat.le_of_ble_eq_true rfl) dX7_faultyByte_22 ⟨Nat.zero_le _, Nat.zero_le _⟩ rfl ?_
        refine lv_iconst (v := 2) hx hb dX7_faultyByte_25 (by decide) ?_
        refine lv_iadd hx hb dX7_faultyByte_26 ?_
        refine lv_iadd hx hb dX7_faultyByte_27 ?_
        refine lv_istore_n (lv' := [(1, .int (v1 + (x5 + 2))), (2, .int x1), (0, .ref v0)]) hx hb dX7_faultyByte_28 rfl hl (by decide) rfl (fun ls hl => ?_)
        refine lv_iload_n hx hb dX7_faultyByte_29 rfl (lv_at hl 0 rfl) ?_
        refine lv_aload_n hx hb dX7_faultyByte_30 rfl (lv_at hl 2 rfl) ?_
        obtain ⟨x6, h6, hf⟩ := Option.bind_eq_some_iff.mp hf
        refine r_gI hx hb hts inX6 hown hK hR rfl 4 (by decide) (hts _ tw_1_110) h6 dX7_faultyByte_31 ?_
        refine lv_icmp_lt (tgt := 2) hx hb dX7_faultyByte_34 (by decide) (fun c7 => ?_) (fun c7 => ?_)
        · replace hf := (if_pos c7).symm.trans hf
          exact ih v0 (v1 + (x5 + 2)) ls hf (lv_sub hl [2, 0] rfl)
        · replace hf := (if_neg c7).symm.trans hf
          refine lv_iconst (v := (-1)) hx hb dX7_faultyByte_37 (by decide) ?_
          exact hret _ _ _ dX7_faultyByte_38 hf
      · replace hf := (if_neg c2).symm.trans hf
        refine lv_iload_n hx hb dX7_faultyByte_13 rfl (lv_at hl 0 rfl) ?_
        exact hret _ _ _ dX7_faultyByte_14 hf
  unfold fX7_faultyByte at hf
  refine lv_iconst (v := 0) hx hb dX7_faultyByte_0 (by decide) ?_
  refine lv_istore_n (lv' := [(1, .int 0), (0, .ref v0)]) hx hb dX7_faultyByte_1 rfl hl (by decide) rfl (fun ls hl => ?_)
  exact L2 FU v0 0 ls hf (lv_sub hl [1, 0] rfl)
/-! BrickedUpAsBlind.Text.numberAt(LBrickedUpAsBlind$Shelf;II)I -/
def fX7_numberAt_38 (ρ : Rho) (k5 : Nat → Int32 → Int32 → Int32 → Int32 → Option Int32) (v0 : Nat) (v1 : Int32) (v2 : Int32) (v3 : Int32) (v4 : Int32) : Option Int32 :=
    k5 v0 v1 v2 v3 (v4 + 1)
def fX7_numberAt_5 (ρ : Rho) : Nat → Nat → Int32 → Int32 → Int32 → Int32 → Option Int32
  | 0, _, _, _, _, _ => none
  | n + 1, v0, v1, v2, v3, v4 =>
    if (v1 + v2) ≤ v4 then (some v3)
    else ((ckO ρ 1 v0).bind fun x2 =>
    (fX6_isPlace ρ v0 v4).bind fun x3 =>
    if x3 = 0 then (fX7_numberAt_38 ρ (fX7_numberAt_5 ρ n) v0 v1 v2 v3 v4)
    else ((gR ρ 1 v0 5).bind fun x5 =>
    (ldI ρ x5 v4).bind fun x6 =>
    fX7_numberAt_38 ρ (fX7_numberAt_5 ρ n) v0 v1 v2 (((v3 * 10) + x6) - 48) v4))
def fX7_numberAt (ρ : Rho) (v0 : Nat) (v1 : Int32) (v2 : Int32) : Option Int32 :=
    fX7_numberAt_5 ρ FU v0 v1 v2 0 v1
abbrev rX7_numberAt : Room := { frames := 1, cells := 0, slots := 0, locals := 21 }
theorem hdX7_numberAt : hdP yX7_numberAt 3 := by unfold hdP; decide +kernel
set_option maxHeartbeats 4000000 in
set_option maxRecDepth 100000 in
theorem kX7_numberAt (l : Launch) (G : GD) (ρ : Rho) (v0 : Nat) (v1 : Int32) (v2 : Int32) (r : Int32) (hf : fX7_numberAt ρ v0 v1 v2 = some r) : RM l G yX7_numberAt (Cond.code yX7_numberAt cX7_numberAt 5 (some .int) :: LW) rX7_numberAt ρ [.ref v0, .int v1, .int v2] (some (.int r)) := by
  refine RM.ofI (own := RX7) (by decide) rfl (Nat.le_of_ble_eq_true rfl) ?_
  intro p e s m args below meth c H locs Q hx hb hml hown hts hK hR hret ls hl
  replace hl : lv_has ls 5 [(0, .ref v0), (1, .int v1), (2, .int v2)] := hl
  have J38 : ∀ (k5 : Nat → Int32 → Int32 → Int32 → Int32 → Option Int32) (_ : ∀ (v0 : Nat) (v1 : Int32) (v2 : Int32) (v3 : Int32) (v4 : Int32) (ls : Array Slot), k5 v0 v1 v2 v3 v4 = some r → lv_has ls 5 [(0, .ref v0), (1, .int v1), (2, .int v2), (3, .int v3), (4, .int v4)] → W p l e rX7_numberAt s m args below meth c H locs 0 0 Q (F0 m 5 ls [])), ∀ (v0 : Nat) (v1 : Int32) (v2 : Int32) (v3 : Int32) (v4 : Int32) (ls : Array Slot), fX7_numberAt_38 ρ k5 v0 v1 v2 v3 v4 = some r → lv_has ls 5 [(0, .ref v0), (1, .int v1), (2, .int v2), (3, .int v3), (4, .int v4)] → W p l e rX7_numberAt s m args below meth c H locs 0 0 Q (F0 m 38 ls []) := by
    intro k5 hk5 v0 v1 v2 v3 v4 ls hf hl
    rw [fX7_numberAt_38] at hf
    refine lv_iinc (v := (v4 + 1)) (lv' := [(4, .int (v4 + 1)), (0, .ref v0), (1, .int v1), (2, .int v2), (3, .int v3)]) hx hb dX7_numberAt_38 hl (k := 4) rfl rfl (by decide) rfl (fun ls hl => ?_)
    refine lv_goto (tgt := 5) hx hb dX7_numberAt_41 (by decide) ?_
    exact hk5 v0 v1 v2 v3 (v4 + 1) ls hf (lv_sub hl [1, 2, 3, 4, 0] rfl)
  have L5 : ∀ (n : Nat) (v0 : Nat) (v1 : Int32) (v2 : Int32) (v3 : Int32) (v4 : Int32) (ls : Array Slot), fX7_numberAt_5 ρ n v0 v1 v2 v3 v4 = some r → lv_has ls 5 [(0, .ref v0), (1, .int v1), (2, .int v2), (3, .int v3), (4, .int v4)] → W p l e rX7_numberAt s m args below meth c H locs 0 0 Q (F0 m 5 ls []) := by
    intro n
    induction n with
    | zero =>
      intro v0 v1 v2 v3 v4 ls hf
      rw [fX7_numberAt_5] at hf
      cases hf
    | succ n ih =>
      intro v0 v1 v2 v3 v4 ls hf hl
      rw [fX7_numberAt_5] at hf
      refine lv_iload hx hb dX7_numberAt_5 (lv_at hl 4 rfl) ?_
      refine lv_iload_n hx hb dX7_numberAt_7 rfl (lv_at hl 1 rfl) ?_
      refine lv_iload_n hx hb dX7_numberAt_8 rfl (lv_at hl 2 rfl) ?_
      refine lv_iadd hx hb dX7_numberAt_9 ?_
      refine lv_icmp_ge (tgt := 44) hx hb dX7_numberAt_10 (by decide) (fun c1 => ?_) (fun c1 => ?_)
      · replace hf := (if_pos c1).symm.trans hf
        refine lv_iload_n hx hb dX7_numberAt_44 rfl (lv_at hl 3 rfl) ?_
        exact hret _ _ _ dX7_numberAt_45 hf
      · replace hf := (if_neg c1).symm.trans hf
        refine lv_aload_n hx hb dX7_numberAt_13 rfl (lv_at hl 0 rfl) ?_
        refine lv_iload hx hb dX7_numberAt_14 (lv_at hl 4 rfl) ?_
        obtain ⟨x2, h2, hf⟩ := Option.bind_eq_some_iff.mp hf
        obtain ⟨x3, h3, hf⟩ := Option.bind_eq_some_iff.mp hf
        refine r_callV (As := [.int v4]) (rest := []) (st1 := [.int x3]) ⟨hx, hb, hml, hown, hts⟩ (kX6_isPlace l G ρ v0 v4 _ h3) (cu_V hts tw_1_168 tw_1_165 tw_1_166 tw_1_167 tw_1_3 hdX6_isPlace rfl rfl ⟨Nat.le_of_ble_eq_true rfl, Nat.le_of_ble_eq_true rfl⟩) hK hR rfl h2 rfl hl.1 rfl (Nat.le_of_ble_eq_true rfl) dX7_numberAt_16 ⟨Nat.zero_le _, Nat.zero_le _⟩ rfl ?_
        refine lv_if_eq (tgt := 38) hx hb dX7_numberAt_19 (by decide) (fun c4 => ?_) (fun c4 => ?_)
        · replace hf := (if_pos c4).symm.trans hf
          exact J38 _ ih v0 v1 v2 v3 v4 ls hf (lv_sub hl [0, 1, 2, 3, 4] rfl)
        · replace hf := (if_neg c4).symm.trans hf
          refine lv_iload_n hx hb dX7_numberAt_22 rfl (lv_at hl 3 rfl) ?_
          refine lv_bipush (v := 10) hx hb dX7_numberAt_23 (by decide) ?_
          refine lv_imul hx hb dX7_numberAt_25 ?_
          refine lv_aload_n hx hb dX7_numberAt_26 rfl (lv_at hl 0 rfl) ?_
          obtain ⟨x5, h5, hf⟩ := Option.bind_eq_some_iff.mp hf
          refine r_gR hx hb hts inX6 hown hK hR rfl 5 (by decide) (hts _ tw_1_115) h5 dX7_numberAt_27 ?_
          refine lv_iload hx hb dX7_numberAt_30 (lv_at hl 4 rfl) ?_
          obtain ⟨x6, h6, hf⟩ := Option.bind_eq_some_iff.mp hf
          refine r_ldI hx hb hK hR h6 dX7_numberAt_32 ?_
          refine lv_iadd hx hb dX7_numberAt_33 ?_
          refine lv_bipush (v := 48) hx hb dX7_numberAt_34 (by decide) ?_
          refine lv_isub hx hb dX7_numberAt_36 ?_
          refine lv_istore_n (lv' := [(3, .int (((v3 * 10) + x6) - 48)), (0, .ref v0), (1, .int v1), (2, .int v2), (4, .int v4)]) hx hb dX7_numberAt_37 rfl hl (by decide) rfl (fun ls hl => ?_)
          exact J38 _ ih v0 v1 v2 (((v3 * 10) + x6) - 48) v4 ls hf (lv_sub hl [1, 2, 3, 0, 4] rfl)
  unfold fX7_numberAt at hf
  refine lv_iconst (v := 0) hx hb dX7_numberAt_0 (by decide) ?_
  refine lv_istore_n (lv' := [(3, .int 0), (0, .ref v0), (1, .int v1), (2, .int v2)]) hx hb dX7_numberAt_1 rfl hl (by decide) rfl (fun ls hl => ?_)
  refine lv_iload_n hx hb dX7_numberAt_2 rfl (lv_at hl 2 rfl) ?_
  refine lv_istore (lv' := [(4, .int v1), (3, .int 0), (0, .ref v0), (1, .int v1), (2, .int v2)]) hx hb dX7_numberAt_3 hl (by decide) rfl (fun ls hl => ?_)
  exact L5 FU v0 v1 v2 0 v1 ls hf (lv_sub hl [2, 3, 4, 1, 0] rfl)
/-! BrickedUpAsBlind.Text.answerTo(LBrickedUpAsBlind$Shelf;ILBrickedUpAsBlind$House;)I -/
def fX7_answerTo (ρ : Rho) (v0 : Nat) (v1 : Int32) (v2 : Nat) : Option (Int32 × Rho) :=
    (gR ρ 1 v0 5).bind fun x1 =>
    (ldI ρ x1 v1).bind fun x2 =>
    if x2 = (104 : Int32) then ((fX7_numberAt ρ v0 (v1 + 1) 2).bind fun x4 =>
    (ckO ρ 0 v2).bind fun x5 =>
    (fX0_changeHour ρ v2 x4).bind fun x6 =>
    some (x6.1, x6.2))
    else (if x2 = (110 : Int32) then ((fX7_numberAt ρ v0 (v1 + 1) 1).bind fun x8 =>
    (fX7_numberAt ρ v0 (v1 + 2) 2).bind fun x9 =>
    (ckO ρ 0 v2).bind fun x10 =>
    (fX0_changeNeed ρ v2 x8 x9).bind fun x11 =>
    some (x11.1, x11.2))
    else (if x2 = (112 : Int32) then ((fX7_numberAt ρ v0 (v1 + 1) 3).bind fun x13 =>
    (ckO ρ 0 v2).bind fun x14 =>
    (fX0_payOff ρ v2 x13).bind fun x15 =>
    some (x15.1, x15.2))
    else (if x2 = (114 : Int32) then ((fX7_numberAt ρ v0 (v1 + 1) 1).bind fun x17 =>
    (ckO ρ 0 v2).bind fun x18 =>
    (fX0_changeRate ρ v2 x17).bind fun x19 =>
    some (x19.1, x19.2))
    else (if x2 = (115 : Int32) then ((fX7_numberAt ρ v0 (v1 + 1) 1).bind fun x21 =>
    (ckO ρ 0 v2).bind fun x22 =>
    (fX0_turnStopped ρ v2 x21).bind fun x23 =>
    some (x23.1, x23.2))
    else (if x2 = (119 : Int32) then ((fX7_numberAt ρ v0 (v1 + 1) 1).bind fun x25 =>
    (fX7_numberAt ρ v0 (v1 + 2) 1).bind fun x26 =>
    (fX7_numberAt ρ v0 (v1 + 3) 1).bind fun x27 =>
    (fX7_numberAt ρ v0 (v1 + 4) 2).bind fun x28 =>
    (ckO ρ 0 v2).bind fun x29 =>
    (fX0_addWindow ρ v2 x25 x26 x27 x28).bind fun x30 =>
    some (x30.1, x30.2))
    else (if x2 = (121 : Int32) then ((fX7_numberAt ρ v0 (v1 + 1) 2).bind fun x32 =>
    (ckO ρ 0 v2).bind fun x33 =>
    (fX0_passYears ρ v2 x32).bind fun x34 =>
    some (x34.1, x34.2))
    else (some ((-1), ρ))))))))
abbrev rX7_answerTo : Room := { frames := 4, cells := 0, slots := 0, locals := 110 }
theorem hdX7_answerTo : hdP yX7_answerTo 3 := by unfold hdP; decide +kernel
set_option maxHeartbeats 4000000 in
set_option maxRecDepth 100000 in
theorem kX7_answerTo (l : Launch) (G : GD) (ρ : Rho) (v0 : Nat) (v1 : Int32) (v2 : Nat) (r0 : Int32) (ρ1 : Rho) (hf : fX7_answerTo ρ v0 v1 v2 = some (r0, ρ1)) : WM l G yX7_answerTo (Cond.code yX7_answerTo cX7_answerTo 3 (some .int) :: LW) rX7_answerTo ρ [.ref v0, .int v1, .ref v2] (some (.int r0)) ρ1 := by
  obtain ⟨r, hr⟩ : ∃ r, r = (r0, ρ1) := ⟨_, rfl⟩
  rw [← hr] at hf
  refine WM.ofI (own := RX7) (r := r) hr (by decide) rfl (Nat.le_of_ble_eq_true rfl) ?_
  intro p e s m args below meth c H locs Q hx hb hml hown hts hK hR hS hret ls hl
  obtain ⟨ρ0, hρ0⟩ : ∃ z, z = ρ := ⟨_, rfl⟩
  rw [← hρ0] at hret
  replace hS : WS ρ0 s.heap ρ H locs := hρ0 ▸ hS
  replace hl : lv_has ls 3 [(0, .ref v0), (1, .int v1), (2, .ref v2)] := hl
  unfold fX7_answerTo at hf
  refine lv_aload_n hx hb dX7_answerTo_0 rfl (lv_at hl 0 rfl) ?_
  obtain ⟨x1, h1, hf⟩ := Option.bind_eq_some_iff.mp hf
  refine r_gR hx hb hts inX6 hown hK hR rfl 5 (by decide) (hts _ tw_1_115) h1 dX7_answerTo_1 ?_
  refine lv_iload_n hx hb dX7_answerTo_4 rfl (lv_at hl 1 rfl) ?_
  obtain ⟨x2, h2, hf⟩ := Option.bind_eq_some_iff.mp hf
  refine r_ldI hx hb hK hR h2 dX7_answerTo_5 ?_
  by_cases c3 : x2 = (104 : Int32)
  · replace hf := (if_pos c3).symm.trans hf
    refine lv_tableIn (tgt := 163) hx hb dX7_answerTo_6 (by rw [c3]; decide) (by rw [c3]; decide) (by rw [c3]; rfl) (by decide) ?_
    refine lv_aload_n hx hb dX7_answerTo_163 rfl (lv_at hl 2 rfl) ?_
    refine lv_aload_n hx hb dX7_answerTo_164 rfl (lv_at hl 0 rfl) ?_
    refine lv_iload_n hx hb dX7_answerTo_165 rfl (lv_at hl 1 rfl) ?_
    refine lv_iconst (v := 1) hx hb dX7_answerTo_166 (by decide) ?_
    refine lv_iadd hx hb dX7_answerTo_167 ?_
    refine lv_iconst (v := 2) hx hb dX7_answerTo_168 (by decide) ?_
    obtain ⟨x4, h4, hf⟩ := Option.bind_eq_some_iff.mp hf
    refine r_callS (As := [.ref v0, .int (v1 + 1), .int 2]) (rest := [.ref v2]) (st1 := [.int x4, .ref v2]) ⟨hx, hb, hml, hown, hts⟩ (kX7_numberAt l G ρ v0 (v1 + 1) 2 _ h4) (cu_S hts tw_1_190 tw_1_188 tw_1_189 tw_1_5 hdX7_numberAt rfl rfl ⟨Nat.le_of_ble_eq_true rfl, Nat.le_of_ble_eq_true rfl⟩) hK hR rfl hl.1 rfl (Nat.le_of_ble_eq_true rfl) dX7_answerTo_169 ⟨Nat.zero_le _, Nat.zero_le _⟩ rfl ?_
    obtain ⟨x5, h5, hf⟩ := Option.bind_eq_some_iff.mp hf
    obtain ⟨x6, h6, hf⟩ := Option.bind_eq_some_iff.mp hf
    refine w_callV (As := [.int x4]) (rest := []) (st1 := [.int x6.1]) ⟨hx, hb, hml, hown, hts⟩ (kX0_changeHour l G ρ v2 x4 _ _ h6) (cu_V hts tw_1_229 tw_1_226 tw_1_227 tw_1_228 tw_1_2 hdX0_changeHour rfl rfl ⟨Nat.le_of_ble_eq_true rfl, Nat.le_of_ble_eq_true rfl⟩) hK hR hS rfl h5 rfl hl.1 rfl (Nat.le_of_ble_eq_true rfl) dX7_answerTo_172 ⟨Nat.zero_le _, Nat.zero_le _⟩ rfl (fun H locs hR hS => ?_)
    exact hret _ _ _ _ _ _ dX7_answerTo_175 hR hS hf
  · replace hf := (if_neg c3).symm.trans hf
    by_cases c7 : x2 = (110 : Int32)
    · replace hf := (if_pos c7).symm.trans hf
      refine lv_tableIn (tgt := 129) hx hb dX7_answerTo_6 (by rw [c7]; decide) (by rw [c7]; decide) (by rw [c7]; rfl) (by decide) ?_
      refine lv_aload_n hx hb dX7_answerTo_129 rfl (lv_at hl 2 rfl) ?_
      refine lv_aload_n hx hb dX7_answerTo_130 rfl (lv_at hl 0 rfl) ?_
      refine lv_iload_n hx hb dX7_answerTo_131 rfl (lv_at hl 1 rfl) ?_
      refine lv_iconst (v := 1) hx hb dX7_answerTo_132 (by decide) ?_
      refine lv_iadd hx hb dX7_answerTo_133 ?_
      refine lv_iconst (v := 1) hx hb dX7_answerTo_134 (by decide) ?_
      obtain ⟨x8, h8, hf⟩ := Option.bind_eq_some_iff.mp hf
      refine r_callS (As := [.ref v0, .int (v1 + 1), .int 1]) (rest := [.ref v2]) (st1 := [.int x8, .ref v2]) ⟨hx, hb, hml, hown, hts⟩ (kX7_numberAt l G ρ v0 (v1 + 1) 1 _ h8) (cu_S hts tw_1_190 tw_1_188 tw_1_189 tw_1_5 hdX7_numberAt rfl rfl ⟨Nat.le_of_ble_eq_true rfl, Nat.le_of_ble_eq_true rfl⟩) hK hR rfl hl.1 rfl (Nat.le_of_ble_eq_true rfl) dX7_answerTo_135 ⟨Nat.zero_le _, Nat.zero_le _⟩ rfl ?_
      refine lv_aload_n hx hb dX7_answerTo_138 rfl (lv_at hl 0 rfl) ?_
      refine lv_iload_n hx hb dX7_answerTo_139 rfl (lv_at hl 1 rfl) ?_
      refine lv_iconst (v := 2) hx hb dX7_answerTo_140 (by decide) ?_
      refine lv_iadd hx hb dX7_answerTo_141 ?_
      refine lv_iconst (v := 2) hx hb dX7_answerTo_142 (by decide) ?_
      obtain ⟨x9, h9, hf⟩ := Option.bind_eq_some_iff.mp hf
      refine r_callS (As := [.ref v0, .int (v1 + 2), .int 2]) (rest := [.int x8, .ref v2]) (st1 := [.int x9, .int x8, .ref v2]) ⟨hx, hb, hml, hown, hts⟩ (kX7_numberAt l G ρ v0 (v1 + 2) 2 _ h9) (cu_S hts tw_1_190 tw_1_188 tw_1_189 tw_1_5 hdX7_numberAt rfl rfl ⟨Nat.le_of_ble_eq_true rfl, Nat.le_of_ble_eq_true rfl⟩) hK hR rfl hl.1 rfl (Nat.le_of_ble_eq_true rfl) dX7_answerTo_143 ⟨Nat.zero_le _, Nat.zero_le _⟩ rfl ?_
      obtain ⟨x10, h10, hf⟩ := Option.bind_eq_some_iff.mp hf
      obtain ⟨x11, h11, hf⟩ := Option.bind_eq_some_iff.mp hf
      refine w_callV (As := [.int x8, .int x9]) (rest := []) (st1 := [.int x11.1]) ⟨hx, hb, hml, hown, hts⟩ (kX0_changeNeed l G ρ v2 x8 x9 _ _ h11) (cu_V hts tw_1_213 tw_1_210 tw_1_211 tw_1_212 tw_1_2 hdX0_changeNeed rfl rfl ⟨Nat.le_of_ble_eq_true rfl, Nat.le_of_ble_eq_true rfl⟩) hK hR hS rfl h10 rfl hl.1 rfl (Nat.le_of_ble_eq_true rfl) dX7_answerTo_146 ⟨Nat.zero_le _, Nat.zero_le _⟩ rfl (fun H locs hR hS => ?_)
      exact hret _ _ _ _ _ _ dX7_answerTo_149 hR hS hf
    · replace hf := (if_neg c7).symm.trans hf
      by_cases c12 : x2 = (112 : Int32)
      · replace hf := (if_pos c12).symm.trans hf
        refine lv_tableIn (tgt := 202) hx hb dX7_answerTo_6 (by rw [c12]; decide) (by rw [c12]; decide) (by rw [c12]; rfl) (by decide) ?_
        refine lv_aload_n hx hb dX7_answerTo_202 rfl (lv_at hl 2 rfl) ?_
        refine lv_aload_n hx hb dX7_answerTo_203 rfl (lv_at hl 0 rfl) ?_
        refine lv_iload_n hx hb dX7_answerTo_204 rfl (lv_at hl 1 rfl) ?_
        refine lv_iconst (v := 1) hx hb dX7_answerTo_205 (by decide) ?_
        refine lv_iadd hx hb dX7_answerTo_206 ?_
        refine lv_iconst (v := 3) hx hb dX7_answerTo_207 (by decide) ?_
        obtain ⟨x13, h13, hf⟩ := Option.bind_eq_some_iff.mp hf
        refine r_callS (As := [.ref v0, .int (v1 + 1), .int 3]) (rest := [.ref v2]) (st1 := [.int x13, .ref v2]) ⟨hx, hb, hml, hown, hts⟩ (kX7_numberAt l G ρ v0 (v1 + 1) 3 _ h13) (cu_S hts tw_1_190 tw_1_188 tw_1_189 tw_1_5 hdX7_numberAt rfl rfl ⟨Nat.le_of_ble_eq_true rfl, Nat.le_of_ble_eq_true rfl⟩) hK hR rfl hl.1 rfl (Nat.le_of_ble_eq_true rfl) dX7_answerTo_208 ⟨Nat.zero_le _, Nat.zero_le _⟩ rfl ?_
        obtain ⟨x14, h14, hf⟩ := Option.bind_eq_some_iff.mp hf
        obtain ⟨x15, h15, hf⟩ := Option.bind_eq_some_iff.mp hf
        refine w_callV (As := [.int x13]) (rest := []) (st1 := [.int x15.1]) ⟨hx, hb, hml, hown, hts⟩ (kX0_payOff l G ρ v2 x13 _ _ h15) (cu_V hts tw_2_26 tw_2_23 tw_2_24 tw_2_25 tw_1_2 hdX0_payOff rfl rfl ⟨Nat.le_of_ble_eq_true rfl, Nat.le_of_ble_eq_true rfl⟩) hK hR hS rfl h14 rfl hl.1 rfl (Nat.le_of_ble_eq_true rfl) dX7_answerTo_211 ⟨Nat.zero_le _, Nat.zero_le _⟩ rfl (fun H locs hR hS => ?_)
        exact hret _ _ _ _ _ _ dX7_answerTo_214 hR hS hf
      · replace hf := (if_neg c12).symm.trans hf
        by_cases c16 : x2 = (114 : Int32)
        · replace hf := (if_pos c16).symm.trans hf
          refine lv_tableIn (tgt := 176) hx hb dX7_answerTo_6 (by rw [c16]; decide) (by rw [c16]; decide) (by rw [c16]; rfl) (by decide) ?_
          refine lv_aload_n hx hb dX7_answerTo_176 rfl (lv_at hl 2 rfl) ?_
          refine lv_aload_n hx hb dX7_answerTo_177 rfl (lv_at hl 0 rfl) ?_
          refine lv_iload_n hx hb dX7_answerTo_178 rfl (lv_at hl 1 rfl) ?_
          refine lv_iconst (v := 1) hx hb dX7_answerTo_179 (by decide) ?_
          refine lv_iadd hx hb dX7_answerTo_180 ?_
          refine lv_iconst (v := 1) hx hb dX7_answerTo_181 (by decide) ?_
          obtain ⟨x17, h17, hf⟩ := Option.bind_eq_some_iff.mp hf
          refine r_callS (As := [.ref v0, .int (v1 + 1), .int 1]) (rest := [.ref v2]) (st1 := [.int x17, .ref v2]) ⟨hx, hb, hml, hown, hts⟩ (kX7_numberAt l G ρ v0 (v1 + 1) 1 _ h17) (cu_S hts tw_1_190 tw_1_188 tw_1_189 tw_1_5 hdX7_numberAt rfl rfl ⟨Nat.le_of_ble_eq_true rfl, Nat.le_of_ble_eq_true rfl⟩) hK hR rfl hl.1 rfl (Nat.le_of_ble_eq_true rfl) dX7_answerTo_182 ⟨Nat.zero_le _, Nat.zero_le _⟩ rfl ?_
          obtain ⟨x18, h18, hf⟩ := Option.bind_eq_some_iff.mp hf
          obtain ⟨x19, h19, hf⟩ := Option.bind_eq_some_iff.mp hf
          refine w_callV (As := [.int x17]) (rest := []) (st1 := [.int x19.1]) ⟨hx, hb, hml, hown, hts⟩ (kX0_changeRate l G ρ v2 x17 _ _ h19) (cu_V hts tw_1_233 tw_1_230 tw_1_231 tw_1_232 tw_1_2 hdX0_changeRate rfl rfl ⟨Nat.le_of_ble_eq_true rfl, Nat.le_of_ble_eq_true rfl⟩) hK hR hS rfl h18 rfl hl.1 rfl (Nat.le_of_ble_eq_true rfl) dX7_answerTo_185 ⟨Nat.zero_le _, Nat.zero_le _⟩ rfl (fun H locs hR hS => ?_)
          exact hret _ _ _ _ _ _ dX7_answerTo_188 hR hS hf
        · replace hf := (if_neg c16).symm.trans hf
          by_cases c20 : x2 = (115 : Int32)
          · replace hf := (if_pos c20).symm.trans hf
            refine lv_tableIn (tgt := 150) hx hb dX7_answerTo_6 (by rw [c20]; decide) (by rw [c20]; decide) (by rw [c20]; rfl) (by decide) ?_
            refine lv_aload_n hx hb dX7_answerTo_150 rfl (lv_at hl 2 rfl) ?_
            refine lv_aload_n hx hb dX7_answerTo_151 rfl (lv_at hl 0 rfl) ?_
            refine lv_iload_n hx hb dX7_answerTo_152 rfl (lv_at hl 1 rfl) ?_
            refine lv_iconst (v := 1) hx hb dX7_answerTo_153 (by decide) ?_
            refine lv_iadd hx hb dX7_answerTo_154 ?_
            refine lv_iconst (v := 1) hx hb dX7_answerTo_155 (by decide) ?_
            obtain ⟨x21, h21, hf⟩ := Option.bind_eq_some_iff.mp hf
            refine r_callS (As := [.ref v0, .int (v1 + 1), .int 1]) (rest := [.ref v2]) (st1 := [.int x21, .ref v2]) ⟨hx, hb, hml, hown, hts⟩ (kX7_numberAt l G ρ v0 (v1 + 1) 1 _ h21) (cu_S hts tw_1_190 tw_1_188 tw_1_189 tw_1_5 hdX7_numberAt rfl rfl ⟨Nat.le_of_ble_eq_true rfl, Nat.le_of_ble_eq_true rfl⟩) hK hR rfl hl.1 rfl (Nat.le_of_ble_eq_true rfl) dX7_answerTo_156 ⟨Nat.zero_le _, Nat.zero_le _⟩ rfl ?_
            obtain ⟨x22, h22, hf⟩ := Option.bind_eq_some_iff.mp hf
            obtain ⟨x23, h23, hf⟩ := Option.bind_eq_some_iff.mp hf
            refine w_callV (As := [.int x21]) (rest := []) (st1 := [.int x23.1]) ⟨hx, hb, hml, hown, hts⟩ (kX0_turnStopped l G ρ v2 x21 _ _ h23) (cu_V hts tw_1_217 tw_1_214 tw_1_215 tw_1_216 tw_1_2 hdX0_turnStopped rfl rfl ⟨Nat.le_of_ble_eq_true rfl, Nat.le_of_ble_eq_true rfl⟩) hK hR hS rfl h22 rfl hl.1 rfl (Nat.le_of_ble_eq_true rfl) dX7_answerTo_159 ⟨Nat.zero_le _, Nat.zero_le _⟩ rfl (fun H locs hR hS => ?_)
            exact hret _ _ _ _ _ _ dX7_answerTo_162 hR hS hf
          · replace hf := (if_neg c20).symm.trans hf
            by_cases c24 : x2 = (119 : Int32)
            · replace hf := (if_pos c24).symm.trans hf
              refine lv_tableIn (tgt := 92) hx hb dX7_answerTo_6 (by rw [c24]; decide) (by rw [c24]; decide) (by rw [c24]; rfl) (by decide) ?_
              refine lv_aload_n hx hb dX7_answerTo_92 rfl (lv_at hl 2 rfl) ?_
              refine lv_aload_n hx hb dX7_answerTo_93 rfl (lv_at hl 0 rfl) ?_
              refine lv_iload_n hx hb dX7_answerTo_94 rfl (lv_at hl 1 rfl) ?_
              refine lv_iconst (v := 1) hx hb dX7_answerTo_95 (by decide) ?_
              refine lv_iadd hx hb dX7_answerTo_96 ?_
              refine lv_iconst (v := 1) hx hb dX7_answerTo_97 (by decide) ?_
              obtain ⟨x25, h25, hf⟩ := Option.bind_eq_some_iff.mp hf
              refine r_callS (As := [.ref v0, .int (v1 + 1), .int 1]) (rest := [.ref v2]) (st1 := [.int x25, .ref v2]) ⟨hx, hb, hml, hown, hts⟩ (kX7_numberAt l G ρ v0 (v1 + 1) 1 _ h25) (cu_S hts tw_1_190 tw_1_188 tw_1_189 tw_1_5 hdX7_numberAt rfl rfl ⟨Nat.le_of_ble_eq_true rfl, Nat.le_of_ble_eq_true rfl⟩) hK hR rfl hl.1 rfl (Nat.le_of_ble_eq_true rfl) dX7_answerTo_98 ⟨Nat.zero_le _, Nat.zero_le _⟩ rfl ?_
              refine lv_aload_n hx hb dX7_answerTo_101 rfl (lv_at hl 0 rfl) ?_
              refine lv_iload_n hx hb dX7_answerTo_102 rfl (lv_at hl 1 rfl) ?_
              refine lv_iconst (v := 2) hx hb dX7_answerTo_103 (by decide) ?_
              refine lv_iadd hx hb dX7_answerTo_104 ?_
              refine lv_iconst (v := 1) hx hb dX7_answerTo_105 (by decide) ?_
              obtain ⟨x26, h26, hf⟩ := Option.bind_eq_some_iff.mp hf
              refine r_callS (As := [.ref v0, .int (v1 + 2), .int 1]) (rest := [.int x25, .ref v2]) (st1 := [.int x26, .int x25, .ref v2]) ⟨hx, hb, hml, hown, hts⟩ (kX7_numberAt l G ρ v0 (v1 + 2) 1 _ h26) (cu_S hts tw_1_190 tw_1_188 tw_1_189 tw_1_5 hdX7_numberAt rfl rfl ⟨Nat.le_of_ble_eq_true rfl, Nat.le_of_ble_eq_true rfl⟩) hK hR rfl hl.1 rfl (Nat.le_of_ble_eq_true rfl) dX7_answerTo_106 ⟨Nat.zero_le _, Nat.zero_le _⟩ rfl ?_
              refine lv_aload_n hx hb dX7_answerTo_109 rfl (lv_at hl 0 rfl) ?_
              refine lv_iload_n hx hb dX7_answerTo_110 rfl (lv_at hl 1 rfl) ?_
              refine lv_iconst (v := 3) hx hb dX7_answerTo_111 (by decide) ?_
              refine lv_iadd hx hb dX7_answerTo_112 ?_
              refine lv_iconst (v := 1) hx hb dX7_answerTo_113 (by decide) ?_
              obtain ⟨x27, h27, hf⟩ := Option.bind_eq_some_iff.mp hf
              refine r_callS (As := [.ref v0, .int (v1 + 3), .int 1]) (rest := [.int x26, .int x25, .ref v2]) (st1 := [.int x27, .int x26, .int x25, .ref v2]) ⟨hx, hb, hml, hown, hts⟩ (kX7_numberAt l G ρ v0 (v1 + 3) 1 _ h27) (cu_S hts tw_1_190 tw_1_188 tw_1_189 tw_1_5 hdX7_numberAt rfl rfl ⟨Nat.le_of_ble_eq_true rfl, Nat.le_of_ble_eq_true rfl⟩) hK hR rfl hl.1 rfl (Nat.le_of_ble_eq_true rfl) dX7_answerTo_114 ⟨Nat.zero_le _, Nat.zero_le _⟩ rfl ?_
              refine lv_aload_n hx hb dX7_answerTo_117 rfl (lv_at hl 0 rfl) ?_
              refine lv_iload_n hx hb dX7_answerTo_118 rfl (lv_at hl 1 rfl) ?_
              refine lv_iconst (v := 4) hx hb dX7_answerTo_119 (by decide) ?_
              refine lv_iadd hx hb dX7_answerTo_120 ?_
              refine lv_iconst (v := 2) hx hb dX7_answerTo_121 (by decide) ?_
              obtain ⟨x28, h28, hf⟩ := Option.bind_eq_some_iff.mp hf
              refine r_callS (As := [.ref v0, .int (v1 + 4), .int 2]) (rest := [.int x27, .int x26, .int x25, .ref v2]) (st1 := [.int x28, .int x27, .int x26, .int x25, .ref v2]) ⟨hx, hb, hml, hown, hts⟩ (kX7_numberAt l G ρ v0 (v1 + 4) 2 _ h28) (cu_S hts tw_1_190 tw_1_188 tw_1_189 tw_1_5 hdX7_numberAt rfl rfl ⟨Nat.le_of_ble_eq_true rfl, Nat.le_of_ble_eq_true rfl⟩) hK hR rfl hl.1 rfl (Nat.le_of_ble_eq_true rfl) dX7_answerTo_122 ⟨Nat.zero_le _, Nat.zero_le _⟩ rfl ?_
              obtain ⟨x29, h29, hf⟩ := Option.bind_eq_some_iff.mp hf
              obtain ⟨x30, h30, hf⟩ := Option.bind_eq_some_iff.mp hf
              refine w_callV (As := [.int x25, .int x26, .int x27, .int x28]) (rest := []) (st1 := [.int x30.1]) ⟨hx, hb, hml, hown, hts⟩ (kX0_addWindow l G ρ v2 x25 x26 x27 x28 _ _ h30) (cu_V hts tw_1_194 tw_1_191 tw_1_192 tw_1_193 tw_1_2 hdX0_addWindow rfl rfl ⟨Nat.le_of_ble_eq_true rfl, Nat.le_of_ble_eq_true rfl⟩) hK hR hS rfl h29 rfl hl.1 rfl (Nat.le_of_ble_eq_true rfl) dX7_answerTo_125 ⟨Nat.zero_le _, Nat.zero_le _⟩ rfl (fun H locs hR hS => ?_)
              exact hret _ _ _ _ _ _ dX7_answerTo_128 hR hS hf
            · replace hf := (if_neg c24).symm.trans hf
              by_cases c31 : x2 = (121 : Int32)
              · replace hf := (if_pos c31).symm.trans hf
                refine lv_tableIn (tgt := 189) hx hb dX7_answerTo_6 (by rw [c31]; decide) (by rw [c31]; decide) (by rw [c31]; rfl) (by decide) ?_
                refine lv_aload_n hx hb dX7_answerTo_189 rfl (lv_at hl 2 rfl) ?_
                refine lv_aload_n hx hb dX7_answerTo_190 rfl (lv_at hl 0 rfl) ?_
                refine lv_iload_n hx hb dX7_answerTo_191 rfl (lv_at hl 1 rfl) ?_
                refine lv_iconst (v := 1) hx hb dX7_answerTo_192 (by decide) ?_
                refine lv_iadd hx hb dX7_answerTo_193 ?_
                refine lv_iconst (v := 2) hx hb dX7_answerTo_194 (by decide) ?_
                obtain ⟨x32, h32, hf⟩ := Option.bind_eq_some_iff.mp hf
                refine r_callS (As := [.ref v0, .int (v1 + 1), .int 2]) (rest := [.ref v2]) (st1 := [.int x32, .ref v2]) ⟨hx, hb, hml, hown, hts⟩ (kX7_numberAt l G ρ v0 (v1 + 1) 2 _ h32) (cu_S hts tw_1_190 tw_1_188 tw_1_189 tw_1_5 hdX7_numberAt rfl rfl ⟨Nat.le_of_ble_eq_true rfl, Nat.le_of_ble_eq_true rfl⟩) hK hR rfl hl.1 rfl (Nat.le_of_ble_eq_true rfl) dX7_answerTo_195 ⟨Nat.zero_le _, Nat.zero_le _⟩ rfl ?_
                obtain ⟨x33, h33, hf⟩ := Option.bind_eq_some_iff.mp hf
                obtain ⟨x34, h34, hf⟩ := Option.bind_eq_some_iff.mp hf
                refine w_callV (As := [.int x32]) (rest := []) (st1 := [.int x34.1]) ⟨hx, hb, hml, hown, hts⟩ (kX0_passYears l G ρ v2 x32 _ _ h34) (cu_V hts tw_1_237 tw_1_234 tw_1_235 tw_1_236 tw_1_2 hdX0_passYears rfl rfl ⟨Nat.le_of_ble_eq_true rfl, Nat.le_of_ble_eq_true rfl⟩) hK hR hS rfl h33 rfl hl.1 rfl (Nat.le_of_ble_eq_true rfl) dX7_answerTo_198 ⟨Nat.zero_le _, Nat.zero_le _⟩ rfl (fun H locs hR hS => ?_)
                exact hret _ _ _ _ _ _ dX7_answerTo_201 hR hS hf
              · replace hf := (if_neg c31).symm.trans hf
                refine r_tabD (tgt := 215) hx hb dX7_answerTo_6 rfl (fun j hj => ?_) (by decide) ?_
                · replace hj : j < 18 := hj
                  rcases (show j = 0 ∨ j = 1 ∨ j = 2 ∨ j = 3 ∨ j = 4 ∨ j = 5 ∨ j = 6 ∨ j = 7 ∨ j = 8 ∨ j = 9 ∨ j = 10 ∨ j = 11 ∨ j = 12 ∨ j = 13 ∨ j = 14 ∨ j = 15 ∨ j = 16 ∨ j = 17 by omega) with rfl | rfl | rfl | rfl | rfl | rfl | rfl | rfl | rfl | rfl | rfl | rfl | rfl | rfl | rfl | rfl | rfl | rfl
                  · exact Or.inr (lv_neT c3 rfl)
                  · exact Or.inl rfl
                  · exact Or.inl rfl
                  · exact Or.inl rfl
                  · exact Or.inl rfl
                  · exact Or.inl rfl
                  · exact Or.inr (lv_neT c7 rfl)
                  · exact Or.inl rfl
                  · exact Or.inr (lv_neT c12 rfl)
                  · exact Or.inl rfl
                  · exact Or.inr (lv_neT c16 rfl)
                  · exact Or.inr (lv_neT c20 rfl)
                  · exact Or.inl rfl
                  · exact Or.inl rfl
                  · exact Or.inl rfl
                  · exact Or.inr (lv_neT c24 rfl)
                  · exact Or.inl rfl
                  · exact Or.inr (lv_neT c31 rfl)
                refine lv_iconst (v := (-1)) hx hb dX7_answerTo_215 (by decide) ?_
                exact hret _ _ _ _ _ _ dX7_answerTo_216 hR hS hf
/-! BrickedUpAsBlind.Text.carryOut(LBrickedUpAsBlind$Shelf;LBrickedUpAsBlind$House;)I -/
def fX7_carryOut_4 : Nat → Rho → Nat → Nat → Int32 → Int32 → Option (Int32 × Rho)
  | 0, _, _, _, _, _ => none
  | n + 1, ρ, v0, v1, v2, v3 =>
    (gI ρ 1 v0 4).bind fun x1 =>
    if x1 ≤ v3 then (some (v2, ρ))
    else ((fX7_answerTo ρ v0 v3 v1).bind fun x3 =>
    if (0 : Int32) ≤ x3.1 then ((gR x3.2 1 v0 5).bind fun x5 =>
    (ldI x3.2 x5 v3).bind fun x6 =>
    (fX7_digitsBehind x3.2 x6).bind fun x7 =>
    fX7_carryOut_4 n x3.2 v0 v1 (v2 + 1) (v3 + (x7 + 2)))
    else (some (((-2000) - v3), x3.2)))
def fX7_carryOut (ρ : Rho) (v0 : Nat) (v1 : Nat) : Option (Int32 × Rho) :=
    fX7_carryOut_4 FU ρ v0 v1 0 0
abbrev rX7_carryOut : Room := { frames := 5, cells := 0, slots := 0, locals := 132 }
theorem hdX7_carryOut : hdP yX7_carryOut 2 := by unfold hdP; decide +kernel
set_option maxHeartbeats 4000000 in
set_option maxRecDepth 100000 in
theorem kX7_carryOut (l : Launch) (G : GD) (ρ : Rho) (v0 : Nat) (v1 : Nat) (r0 : Int32) (ρ1 : Rho) (hf : fX7_carryOut ρ v0 v1 = some (r0, ρ1)) : WM l G yX7_carryOut (Cond.code yX7_carryOut cX7_carryOut 4 (some .int) :: LW) rX7_carryOut ρ [.ref v0, .ref v1] (some (.int r0)) ρ1 := by
  obtain ⟨r, hr⟩ : ∃ r, r = (r0, ρ1) := ⟨_, rfl⟩
  rw [← hr] at hf
  refine WM.ofI (own := RX7) (r := r) hr (by decide) rfl (Nat.le_of_ble_eq_true rfl) ?_
  intro p e s m args below meth c H locs Q hx hb hml hown hts hK hR hS hret ls hl
  obtain ⟨ρ0, hρ0⟩ : ∃ z, z = ρ := ⟨_, rfl⟩
  rw [← hρ0] at hret
  replace hS : WS ρ0 s.heap ρ H locs := hρ0 ▸ hS
  replace hl : lv_has ls 4 [(0, .ref v0), (1, .ref v1)] := hl
  have L4 : ∀ (n : Nat) (ρ : Rho) (v0 : Nat) (v1 : Nat) (v2 : Int32) (v3 : Int32) (H : Heap) (locs : List Loc) (ls : Array Slot), fX7_carryOut_4 n ρ v0 v1 v2 v3 = some r → lv_has ls 4 [(0, .ref v0), (1, .ref v1), (2, .int v2), (3, .int v3)] → RW G ρ H → WS ρ0 s.heap ρ H locs → W p l e rX7_carryOut s m args below meth c H locs 0 0 Q (F0 m 4 ls []) := by
    intro n
    induction n with
    | zero =>
      intro ρ v0 v1 v2 v3 H locs ls hf
      rw [fX7_carryOut_4] at hf
      cases hf
    | succ n ih =>
      intro ρ v0 v1 v2 v3 H locs ls hf hl hR hS
      rw [fX7_carryOut_4] at hf
      refine lv_iload_n hx hb dX7_carryOut_4 rfl (lv_at hl 3 rfl) ?_
      refine lv_aload_n hx hb dX7_carryOut_5 rfl (lv_at hl 0 rfl) ?_
      obtain ⟨x1, h1, hf⟩ := Option.bind_eq_some_iff.mp hf
      refine r_gI hx hb hts inX6 hown hK hR rfl 4 (by decide) (hts _ tw_1_110) h1 dX7_carryOut_6 ?_
      refine lv_icmp_ge (tgt := 47) hx hb dX7_carryOut_9 (by decide) (fun c2 => ?_) (fun c2 => ?_)
      · replace hf := (if_pos c2).symm.trans hf
        refine lv_iload_n hx hb dX7_carryOut_47 rfl (lv_at hl 2 rfl) ?_
        exact hret _ _ _ _ _ _ dX7_carryOut_48 hR hS hf
      · replace hf := (if_neg c2).symm.trans hf
        refine lv_aload_n hx hb dX7_carryOut_12 rfl (lv_at hl 0 rfl) ?_
        refine lv_iload_n hx hb dX7_carryOut_13 rfl (lv_at hl 3 rfl) ?_
        refine lv_aload_n hx hb dX7_carryOut_14 rfl (lv_at hl 1 rfl) ?_
        obtain ⟨x3, h3, hf⟩ := Option.bind_eq_some_iff.mp hf
        refine w_callS (As := [.ref v0, .int v3, .ref v1]) (rest := []) (st1 := [.int x3.1]) ⟨hx, hb, hml, hown, hts⟩ (kX7_answerTo l G ρ v0 v3 v1 _ _ h3) (cu_S hts tw_1_187 tw_1_185 tw_1_186 tw_1_5 hdX7_answerTo rfl rfl ⟨Nat.le_of_ble_eq_true rfl, Nat.le_of_ble_eq_true rfl⟩) hK hR hS rfl hl.1 rfl (Nat.le_of_ble_eq_true rfl) dX7_carryOut_15 ⟨Nat.zero_le _, Nat.zero_le _⟩ rfl (fun H locs hR hS => ?_)
        refine lv_if_ge (tgt := 27) hx hb dX7_carryOut_18 (by decide) (fun c4 => ?_) (fun c4 => ?_)
        · replace hf := (if_pos c4).symm.trans hf
          refine lv_iinc (v := (v2 + 1)) (lv' := [(2, .int (v2 + 1)), (0, .ref v0), (1, .ref v1), (3, .int v3)]) hx hb dX7_carryOut_27 hl (k := 2) rfl rfl (by decide) rfl (fun ls hl => ?_)
          refine lv_iload_n hx hb dX7_carryOut_30 rfl (lv_at hl 3 rfl) ?_
          refine lv_aload_n hx hb dX7_carryOut_31 rfl (lv_at hl 1 rfl) ?_
          obtain ⟨x5, h5, hf⟩ := Option.bind_eq_some_iff.mp hf
          refine r_gR hx hb hts inX6 hown hK hR rfl 5 (by decide) (hts _ tw_1_115) h5 dX7_carryOut_32 ?_
          refine lv_iload_n hx hb dX7_carryOut_35 rfl (lv_at hl 3 rfl) ?_
          obtain ⟨x6, h6, hf⟩ := Option.bind_eq_some_iff.mp hf
          refine r_ldI hx hb hK hR h6 dX7_carryOut_36 ?_
          obtain ⟨x7, h7, hf⟩ := Option.bind_eq_some_iff.mp hf
          refine r_callS (As := [.int x6]) (rest := [.int v3]) (st1 := [.int x7, .int v3]) ⟨hx, hb, hml, hown, hts⟩ (kX7_digitsBehind l G x3.2 x6 _ h7) (cu_S hts tw_1_171 tw_1_169 tw_1_170 tw_1_5 hdX7_digitsBehind rfl rfl ⟨Nat.le_of_ble_eq_true rfl, Nat.le_of_ble_eq_true rfl⟩) hK hR rfl hl.1 rfl (Nat.le_of_ble_eq_true rfl) dX7_carryOut_37 ⟨Nat.zero_le _, Nat.zero_le _⟩ rfl ?_
          refine lv_iconst (v := 2) hx hb dX7_carryOut_40 (by decide) ?_
          refine lv_iadd hx hb dX7_carryOut_41 ?_
          refine lv_iadd hx hb dX7_carryOut_42 ?_
          refine lv_istore_n (lv' := [(3, .int (v3 + (x7 + 2))), (2, .int (v2 + 1)), (0, .ref v0), (1, .ref v1)]) hx hb dX7_carryOut_43 rfl hl (by decide) rfl (fun ls hl => ?_)
          refine lv_goto (tgt := 4) hx hb dX7_carryOut_44 (by decide) ?_
          exact ih x3.2 v0 v1 (v2 + 1) (v3 + (x7 + 2)) H locs ls hf (lv_sub hl [2, 3, 1, 0] rfl) hR hS
        · replace hf := (if_neg c4).symm.trans hf
          refine lv_sipush (v := (-2000)) hx hb dX7_carryOut_21 (by decide) ?_
          refine lv_iload_n hx hb dX7_carryOut_24 rfl (lv_at hl 3 rfl) ?_
          refine lv_isub hx hb dX7_carryOut_25 ?_
          exact hret _ _ _ _ _ _ dX7_carryOut_26 hR hS hf
  unfold fX7_carryOut at hf
  refine lv_iconst (v := 0) hx hb dX7_carryOut_0 (by decide) ?_
  refine lv_istore_n (lv' := [(2, .int 0), (0, .ref v0), (1, .ref v1)]) hx hb dX7_carryOut_1 rfl hl (by decide) rfl (fun ls hl => ?_)
  refine lv_iconst (v := 0) hx hb dX7_carryOut_2 (by decide) ?_
  refine lv_istore_n (lv' := [(3, .int 0), (2, .int 0), (0, .ref v0), (1, .ref v1)]) hx hb dX7_carryOut_3 rfl hl (by decide) rfl (fun ls hl => ?_)
  exact L4 FU ρ v0 v1 0 0 H locs ls hf (lv_sub hl [2, 3, 1, 0] rfl) hR hS
/-! BrickedUpAsBlind.Shelf.refusalAsKind()I -/
def fX6_refusalAsKind (ρ : Rho) (v0 : Nat) : Option Int32 :=
    (gI ρ 1 v0 0).bind fun x1 =>
    if x1 = 0 then (some (-11))
    else ((gI ρ 1 v0 0).bind fun x3 =>
    if x3 = 1 then (some 0)
    else (some (-12)))
abbrev rX6_refusalAsKind : Room := { frames := 0, cells := 0, slots := 0, locals := 0 }
theorem hdX6_refusalAsKind : hdP yX6_refusalAsKind 0 := by unfold hdP; decide +kernel
set_option maxHeartbeats 4000000 in
set_option maxRecDepth 100000 in
theorem kX6_refusalAsKind (l : Launch) (G : GD) (ρ : Rho) (v0 : Nat) (r : Int32) (hf : fX6_refusalAsKind ρ v0 = some r) : RM l G yX6_refusalAsKind (Cond.code yX6_refusalAsKind cX6_refusalAsKind 1 (some .int) :: LW) rX6_refusalAsKind ρ [.ref v0] (some (.int r)) := by
  refine RM.ofI (own := RX6) (by decide) rfl (Nat.le_of_ble_eq_true rfl) ?_
  intro p e s m args below meth c H locs Q hx hb hml hown hts hK hR hret ls hl
  replace hl : lv_has ls 1 [(0, .ref v0)] := hl
  unfold fX6_refusalAsKind at hf
  refine lv_aload_n hx hb dX6_refusalAsKind_0 rfl (lv_at hl 0 rfl) ?_
  obtain ⟨x1, h1, hf⟩ := Option.bind_eq_some_iff.mp hf
  refine r_gI hx hb hts inX6 hown hK hR rfl 0 (by decide) (hts _ tw_1_101) h1 dX6_refusalAsKind_1 ?_
  refine lv_if_ne (tgt := 10) hx hb dX6_refusalAsKind_4 (by decide) (fun c2 => ?_) (fun c2 => ?_)
  · replace hf := (if_neg c2).symm.trans hf
    refine lv_aload_n hx hb dX6_refusalAsKind_10 rfl (lv_at hl 0 rfl) ?_
    obtain ⟨x3, h3, hf⟩ := Option.bind_eq_some_iff.mp hf
    refine r_gI hx hb hts inX6 hown hK hR rfl 0 (by decide) (hts _ tw_1_101) h3 dX6_refusalAsKind_11 ?_
    refine lv_iconst (v := 1) hx hb dX6_refusalAsKind_14 (by decide) ?_
    refine lv_icmp_ne (tgt := 22) hx hb dX6_refusalAsKind_15 (by decide) (fun c4 => ?_) (fun c4 => ?_)
    · replace hf := (if_neg c4).symm.trans hf
      refine lv_bipush (v := (-12)) hx hb dX6_refusalAsKind_22 (by decide) ?_
      exact hret _ _ _ dX6_refusalAsKind_24 hf
    · replace hf := (if_pos c4).symm.trans hf
      refine lv_iconst (v := 0) hx hb dX6_refusalAsKind_18 (by decide) ?_
      refine lv_goto (tgt := 24) hx hb dX6_refusalAsKind_19 (by decide) ?_
      exact hret _ _ _ dX6_refusalAsKind_24 hf
  · replace hf := (if_pos c2).symm.trans hf
    refine lv_bipush (v := (-11)) hx hb dX6_refusalAsKind_7 (by decide) ?_
    exact hret _ _ _ dX6_refusalAsKind_9 hf
/-! BrickedUpAsBlind.Shelf.untold()I -/
def fX6_untold (ρ : Rho) (v0 : Nat) : Option Int32 :=
    (gI ρ 1 v0 3).bind fun x1 =>
    if x1 = 0 then (some (-128))
    else ((gI ρ 1 v0 3).bind fun x3 =>
    if x3 = 1 then (some (-32768))
    else (some (-2147483648)))
abbrev rX6_untold : Room := { frames := 0, cells := 0, slots := 0, locals := 0 }
theorem hdX6_untold : hdP yX6_untold 0 := by unfold hdP; decide +kernel
set_option maxHeartbeats 4000000 in
set_option maxRecDepth 100000 in
theorem kX6_untold (l : Launch) (G : GD) (ρ : Rho) (v0 : Nat) (r : Int32) (hf : fX6_untold ρ v0 = some r) : RM l G yX6_untold (Cond.code yX6_untold cX6_untold 1 (some .int) :: LW) rX6_untold ρ [.ref v0] (some (.int r)) := by
  refine RM.ofI (own := RX6) (by decide) rfl (Nat.le_of_ble_eq_true rfl) ?_
  intro p e s m args below meth c H locs Q hx hb hml hown hts hK hR hret ls hl
  replace hl : lv_has ls 1 [(0, .ref v0)] := hl
  unfold fX6_untold at hf
  refine lv_aload_n hx hb dX6_untold_0 rfl (lv_at hl 0 rfl) ?_
  obtain ⟨x1, h1, hf⟩ := Option.bind_eq_some_iff.mp hf
  refine r_gI hx hb hts inX6 hown hK hR rfl 3 (by decide) (hts _ tw_1_107) h1 dX6_untold_1 ?_
  refine lv_if_ne (tgt := 10) hx hb dX6_untold_4 (by decide) (fun c2 => ?_) (fun c2 => ?_)
  · replace hf := (if_neg c2).symm.trans hf
    refine lv_aload_n hx hb dX6_untold_10 rfl (lv_at hl 0 rfl) ?_
    obtain ⟨x3, h3, hf⟩ := Option.bind_eq_some_iff.mp hf
    refine r_gI hx hb hts inX6 hown hK hR rfl 3 (by decide) (hts _ tw_1_107) h3 dX6_untold_11 ?_
    refine lv_iconst (v := 1) hx hb dX6_untold_14 (by decide) ?_
    refine lv_icmp_ne (tgt := 24) hx hb dX6_untold_15 (by decide) (fun c4 => ?_) (fun c4 => ?_)
    · replace hf := (if_neg c4).symm.trans hf
      refine lv_ldc (v := (-2147483648)) hx hb hown (hts _ (lw_t3 (List.mem_of_getElem? (i := 84) rfl) rfl)) dX6_untold_24 ?_
      exact hret _ _ _ dX6_untold_26 hf
    · replace hf := (if_pos c4).symm.trans hf
      refine lv_sipush (v := (-32768)) hx hb dX6_untold_18 (by decide) ?_
      refine lv_goto (tgt := 26) hx hb dX6_untold_21 (by decide) ?_
      exact hret _ _ _ dX6_untold_26 hf
  · replace hf := (if_pos c2).symm.trans hf
    refine lv_bipush (v := (-128)) hx hb dX6_untold_7 (by decide) ?_
    exact hret _ _ _ dX6_untold_9 hf
/-! BrickedUpAsBlind.Shelf.clearOut()V -/
def fX6_clearOut (ρ : Rho) (v0 : Nat) : Option Rho :=
    (ptV ρ 1 v0 0 (.int 0)).bind fun x1 =>
    some x1
abbrev rX6_clearOut : Room := { frames := 0, cells := 0, slots := 0, locals := 0 }
theorem hdX6_clearOut : hdP yX6_clearOut 0 := by unfold hdP; decide +kernel
set_option maxHeartbeats 4000000 in
set_option maxRecDepth 100000 in
theorem kX6_clearOut (l : Launch) (G : GD) (ρ : Rho) (v0 : Nat) (ρ1 : Rho) (hf : fX6_clearOut ρ v0 = some ρ1) : WM l G yX6_clearOut (Cond.code yX6_clearOut cX6_clearOut 1 none :: LW) rX6_clearOut ρ [.ref v0] (none) ρ1 := by
  obtain ⟨r, hr⟩ : ∃ r, r = ρ1 := ⟨_, rfl⟩
  rw [← hr] at hf
  refine WM.ofV (own := RX6) (r := r) hr (by decide) rfl (Nat.le_of_ble_eq_true rfl) ?_
  intro p e s m args below meth c H locs Q hx hb hml hown hts hK hR hS hret ls hl
  obtain ⟨ρ0, hρ0⟩ : ∃ z, z = ρ := ⟨_, rfl⟩
  rw [← hρ0] at hret
  replace hS : WS ρ0 s.heap ρ H locs := hρ0 ▸ hS
  replace hl : lv_has ls 1 [(0, .ref v0)] := hl
  unfold fX6_clearOut at hf
  refine lv_aload_n hx hb dX6_clearOut_0 rfl (lv_at hl 0 rfl) ?_
  refine lv_iconst (v := 0) hx hb dX6_clearOut_1 (by decide) ?_
  obtain ⟨x1, h1, hf⟩ := Option.bind_eq_some_iff.mp hf
  refine w_ptV hx hb hts inX6 tyX6 tyX6_ok nmX6 hown hK hR hS rfl 0 (by decide) (hts _ tw_1_101) rfl (ty := .int) rfl rfl rfl h1 dX6_clearOut_2 (fun H locs hR hS => ?_)
  exact hret _ _ _ _ _ dX6_clearOut_5 hR hS hf
/-! BrickedUpAsBlind.Shelf.holdKind(II)V -/
def fX6_holdKind (ρ : Rho) (v0 : Nat) (v1 : Int32) (v2 : Int32) : Option Rho :=
    (ptV ρ 1 v0 0 (.int 1)).bind fun x1 =>
    (ptV x1 1 v0 1 (.int v1)).bind fun x2 =>
    (ptV x2 1 v0 2 (.int v2)).bind fun x3 =>
    some x3
abbrev rX6_holdKind : Room := { frames := 0, cells := 0, slots := 0, locals := 0 }
theorem hdX6_holdKind : hdP yX6_holdKind 2 := by unfold hdP; decide +kernel
set_option maxHeartbeats 4000000 in
set_option maxRecDepth 100000 in
theorem kX6_holdKind (l : Launch) (G : GD) (ρ : Rho) (v0 : Nat) (v1 : Int32) (v2 : Int32) (ρ1 : Rho) (hf : fX6_holdKind ρ v0 v1 v2 = some ρ1) : WM l G yX6_holdKind (Cond.code yX6_holdKind cX6_holdKind 3 none :: LW) rX6_holdKind ρ [.ref v0, .int v1, .int v2] (none) ρ1 := by
  obtain ⟨r, hr⟩ : ∃ r, r = ρ1 := ⟨_, rfl⟩
  rw [← hr] at hf
  refine WM.ofV (own := RX6) (r := r) hr (by decide) rfl (Nat.le_of_ble_eq_true rfl) ?_
  intro p e s m args below meth c H locs Q hx hb hml hown hts hK hR hS hret ls hl
  obtain ⟨ρ0, hρ0⟩ : ∃ z, z = ρ := ⟨_, rfl⟩
  rw [← hρ0] at hret
  replace hS : WS ρ0 s.heap ρ H locs := hρ0 ▸ hS
  replace hl : lv_has ls 3 [(0, .ref v0), (1, .int v1), (2, .int v2)] := hl
  unfold fX6_holdKind at hf
  refine lv_aload_n hx hb dX6_holdKind_0 rfl (lv_at hl 0 rfl) ?_
  refine lv_iconst (v := 1) hx hb dX6_holdKind_1 (by decide) ?_
  obtain ⟨x1, h1, hf⟩ := Option.bind_eq_some_iff.mp hf
  refine w_ptV hx hb hts inX6 tyX6 tyX6_ok nmX6 hown hK hR hS rfl 0 (by decide) (hts _ tw_1_101) rfl (ty := .int) rfl rfl rfl h1 dX6_holdKind_2 (fun H locs hR hS => ?_)
  refine lv_aload_n hx hb dX6_holdKind_5 rfl (lv_at hl 0 rfl) ?_
  refine lv_iload_n hx hb dX6_holdKind_6 rfl (lv_at hl 1 rfl) ?_
  obtain ⟨x2, h2, hf⟩ := Option.bind_eq_some_iff.mp hf
  refine w_ptV hx hb hts inX6 tyX6 tyX6_ok nmX6 hown hK hR hS rfl 1 (by decide) (hts _ tw_1_103) rfl (ty := .int) rfl rfl rfl h2 dX6_holdKind_7 (fun H locs hR hS => ?_)
  refine lv_aload_n hx hb dX6_holdKind_10 rfl (lv_at hl 0 rfl) ?_
  refine lv_iload_n hx hb dX6_holdKind_11 rfl (lv_at hl 2 rfl) ?_
  obtain ⟨x3, h3, hf⟩ := Option.bind_eq_some_iff.mp hf
  refine w_ptV hx hb hts inX6 tyX6 tyX6_ok nmX6 hown hK hR hS rfl 2 (by decide) (hts _ tw_1_105) rfl (ty := .int) rfl rfl rfl h3 dX6_holdKind_12 (fun H locs hR hS => ?_)
  exact hret _ _ _ _ _ dX6_holdKind_15 hR hS hf
/-! BrickedUpAsBlind.Shelf.isSort(I)Z -/
def fX6_isSort (ρ : Rho) (v0 : Int32) : Option Int32 :=
    if v0 = 0 then (nb 1)
    else (if v0 = 1 then (nb 1)
    else (if v0 = 2 then (nb 1)
    else (nb 0)))
abbrev rX6_isSort : Room := { frames := 0, cells := 0, slots := 0, locals := 0 }
theorem hdX6_isSort : hdP yX6_isSort 1 := by unfold hdP; decide +kernel
set_option maxHeartbeats 4000000 in
set_option maxRecDepth 100000 in
theorem kX6_isSort (l : Launch) (G : GD) (ρ : Rho) (v0 : Int32) (r : Int32) (hf : fX6_isSort ρ v0 = some r) : RM l G yX6_isSort (Cond.code yX6_isSort cX6_isSort 1 (some .boolean) :: LW) rX6_isSort ρ [.int v0] (some (.int r)) := by
  refine RM.ofZ (own := RX6) (by decide) rfl (Nat.le_of_ble_eq_true rfl) ?_
  intro p e s m args below meth c H locs Q hx hb hml hown hts hK hR hret ls hl
  replace hl : lv_has ls 1 [(0, .int v0)] := hl
  unfold fX6_isSort at hf
  refine lv_iload_n hx hb dX6_isSort_0 rfl (lv_at hl 0 rfl) ?_
  refine lv_if_eq (tgt := 14) hx hb dX6_isSort_1 (by decide) (fun c1 => ?_) (fun c1 => ?_)
  · replace hf := (if_pos c1).symm.trans hf
    refine lv_iconst (v := 1) hx hb dX6_isSort_14 (by decide) ?_
    refine lv_goto (tgt := 19) hx hb dX6_isSort_15 (by decide) ?_
    exact hret _ _ _ dX6_isSort_19 hf
  · replace hf := (if_neg c1).symm.trans hf
    refine lv_iload_n hx hb dX6_isSort_4 rfl (lv_at hl 0 rfl) ?_
    refine lv_iconst (v := 1) hx hb dX6_isSort_5 (by decide) ?_
    refine lv_icmp_eq (tgt := 14) hx hb dX6_isSort_6 (by decide) (fun c2 => ?_) (fun c2 => ?_)
    · replace hf := (if_pos c2).symm.trans hf
      refine lv_iconst (v := 1) hx hb dX6_isSort_14 (by decide) ?_
      refine lv_goto (tgt := 19) hx hb dX6_isSort_15 (by decide) ?_
      exact hret _ _ _ dX6_isSort_19 hf
    · replace hf := (if_neg c2).symm.trans hf
      refine lv_iload_n hx hb dX6_isSort_9 rfl (lv_at hl 0 rfl) ?_
      refine lv_iconst (v := 2) hx hb dX6_isSort_10 (by decide) ?_
      refine lv_icmp_ne (tgt := 18) hx hb dX6_isSort_11 (by decide) (fun c3 => ?_) (fun c3 => ?_)
      · replace hf := (if_neg c3).symm.trans hf
        refine lv_iconst (v := 0) hx hb dX6_isSort_18 (by decide) ?_
        exact hret _ _ _ dX6_isSort_19 hf
      · replace hf := (if_pos c3).symm.trans hf
        refine lv_iconst (v := 1) hx hb dX6_isSort_14 (by decide) ?_
        refine lv_goto (tgt := 19) hx hb dX6_isSort_15 (by decide) ?_
        exact hret _ _ _ dX6_isSort_19 hf
/-! BrickedUpAsBlind.Shelf.holdRow(II)V -/
def fX6_holdRow_17 : Nat → Rho → Nat → Int32 → Option Rho
  | 0, _, _, _ => none
  | n + 1, ρ, v0, v3 =>
    if (100 : Int32) ≤ v3 then (some ρ)
    else ((gR ρ 1 v0 5).bind fun x2 =>
    (stI ρ x2 v3 0).bind fun x3 =>
    fX6_holdRow_17 n x3 v0 (v3 + 1))
def fX6_holdRow (ρ : Rho) (v0 : Nat) (v1 : Int32) (v2 : Int32) : Option Rho :=
    (ptV ρ 1 v0 0 (.int 2)).bind fun x4 =>
    (ptV x4 1 v0 3 (.int v1)).bind fun x5 =>
    (ptV x5 1 v0 4 (.int v2)).bind fun x6 =>
    fX6_holdRow_17 FU x6 v0 0
abbrev rX6_holdRow : Room := { frames := 0, cells := 0, slots := 0, locals := 0 }
theorem hdX6_holdRow : hdP yX6_holdRow 2 := by unfold hdP; decide +kernel
set_option maxHeartbeats 4000000 in
set_option maxRecDepth 100000 in
theorem kX6_holdRow (l : Launch) (G : GD) (ρ : Rho) (v0 : Nat) (v1 : Int32) (v2 : Int32) (ρ1 : Rho) (hf : fX6_holdRow ρ v0 v1 v2 = some ρ1) : WM l G yX6_holdRow (Cond.code yX6_holdRow cX6_holdRow 4 none :: LW) rX6_holdRow ρ [.ref v0, .int v1, .int v2] (none) ρ1 := by
  obtain ⟨r, hr⟩ : ∃ r, r = ρ1 := ⟨_, rfl⟩
  rw [← hr] at hf
  refine WM.ofV (own := RX6) (r := r) hr (by decide) rfl (Nat.le_of_ble_eq_true rfl) ?_
  intro p e s m args below meth c H locs Q hx hb hml hown hts hK hR hS hret ls hl
  obtain ⟨ρ0, hρ0⟩ : ∃ z, z = ρ := ⟨_, rfl⟩
  rw [← hρ0] at hret
  replace hS : WS ρ0 s.heap ρ H locs := hρ0 ▸ hS
  replace hl : lv_has ls 4 [(0, .ref v0), (1, .int v1), (2, .int v2)] := hl
  have L17 : ∀ (n : Nat) (ρ : Rho) (v0 : Nat) (v3 : Int32) (H : Heap) (locs : List Loc) (ls : Array Slot), fX6_holdRow_17 n ρ v0 v3 = some r → lv_has ls 4 [(0, .ref v0), (3, .int v3)] → RW G ρ H → WS ρ0 s.heap ρ H locs → W p l e rX6_holdRow s m args below meth c H locs 0 0 Q (F0 m 17 ls []) := by
    intro n
    induction n with
    | zero =>
      intro ρ v0 v3 H locs ls hf
      rw [fX6_holdRow_17] at hf
      cases hf
    | succ n ih =>
      intro ρ v0 v3 H locs ls hf hl hR hS
      rw [fX6_holdRow_17] at hf
      refine lv_iload_n hx hb dX6_holdRow_17 rfl (lv_at hl 1 rfl) ?_
      refine lv_bipush (v := 100) hx hb dX6_holdRow_18 (by decide) ?_
      refine lv_icmp_ge (tgt := 36) hx hb dX6_holdRow_20 (by decide) (fun c1 => ?_) (fun c1 => ?_)
      · replace hf := (if_pos c1).symm.trans hf
        exact hret _ _ _ _ _ dX6_holdRow_36 hR hS hf
      · replace hf := (if_neg c1).symm.trans hf
        refine lv_aload_n hx hb dX6_holdRow_23 rfl (lv_at hl 0 rfl) ?_
        obtain ⟨x2, h2, hf⟩ := Option.bind_eq_some_iff.mp hf
        refine r_gR hx hb hts inX6 hown hK hR rfl 5 (by decide) (hts _ tw_1_114) h2 dX6_holdRow_24 ?_
        refine lv_iload_n hx hb dX6_holdRow_27 rfl (lv_at hl 1 rfl) ?_
        refine lv_iconst (v := 0) hx hb dX6_holdRow_28 (by decide) ?_
        obtain ⟨x3, h3, hf⟩ := Option.bind_eq_some_iff.mp hf
        refine w_stI hx hb hK hR hS h3 dX6_holdRow_29 (fun H locs hR hS => ?_)
        refine lv_iinc (v := (v3 + 1)) (lv' := [(3, .int (v3 + 1)), (0, .ref v0)]) hx hb dX6_holdRow_30 hl (k := 1) rfl rfl (by decide) rfl (fun ls hl => ?_)
        refine lv_goto (tgt := 17) hx hb dX6_holdRow_33 (by decide) ?_
        exact ih x3 v0 (v3 + 1) H locs ls hf (lv_sub hl [1, 0] rfl) hR hS
  unfold fX6_holdRow at hf
  refine lv_aload_n hx hb dX6_holdRow_0 rfl (lv_at hl 0 rfl) ?_
  refine lv_iconst (v := 2) hx hb dX6_holdRow_1 (by decide) ?_
  obtain ⟨x4, h4, hf⟩ := Option.bind_eq_some_iff.mp hf
  refine w_ptV hx hb hts inX6 tyX6 tyX6_ok nmX6 hown hK hR hS rfl 0 (by decide) (hts _ tw_1_101) rfl (ty := .int) rfl rfl rfl h4 dX6_holdRow_2 (fun H locs hR hS => ?_)
  refine lv_aload_n hx hb dX6_holdRow_5 rfl (lv_at hl 0 rfl) ?_
  refine lv_iload_n hx hb dX6_holdRow_6 rfl (lv_at hl 1 rfl) ?_
  obtain ⟨x5, h5, hf⟩ := Option.bind_eq_some_iff.mp hf
  refine w_ptV hx hb hts inX6 tyX6 tyX6_ok nmX6 hown hK hR hS rfl 3 (by decide) (hts _ tw_1_107) rfl (ty := .int) rfl rfl rfl h5 dX6_holdRow_7 (fun H locs hR hS => ?_)
  refine lv_aload_n hx hb dX6_holdRow_10 rfl (lv_at hl 0 rfl) ?_
  refine lv_iload_n hx hb dX6_holdRow_11 rfl (lv_at hl 2 rfl) ?_
  obtain ⟨x6, h6, hf⟩ := Option.bind_eq_some_iff.mp hf
  refine w_ptV hx hb hts inX6 tyX6 tyX6_ok nmX6 hown hK hR hS rfl 4 (by decide) (hts _ tw_1_109) rfl (ty := .int) rfl rfl rfl h6 dX6_holdRow_12 (fun H locs hR hS => ?_)
  refine lv_iconst (v := 0) hx hb dX6_holdRow_15 (by decide) ?_
  refine lv_istore_n (lv' := [(3, .int 0), (0, .ref v0), (1, .int v1), (2, .int v2)]) hx hb dX6_holdRow_16 rfl hl (by decide) rfl (fun ls hl => ?_)
  exact L17 FU x6 v0 0 H locs ls hf (lv_sub hl [1, 0] rfl) hR hS
/-! BrickedUpAsBlind.Shelf.write(II)V -/
def fX6_write (ρ : Rho) (v0 : Nat) (v1 : Int32) (v2 : Int32) : Option Rho :=
    (gI ρ 1 v0 3).bind fun x1 =>
    if x1 = 0 then ((gR ρ 1 v0 5).bind fun x9 =>
    (stI ρ x9 v1 (Int8.toInt32 (Int32.toInt8 v2))).bind fun x10 =>
    some x10)
    else ((gI ρ 1 v0 3).bind fun x3 =>
    if x3 = 1 then ((gR ρ 1 v0 5).bind fun x7 =>
    (stI ρ x7 v1 (Int16.toInt32 (Int32.toInt16 v2))).bind fun x8 =>
    some x8)
    else ((gR ρ 1 v0 5).bind fun x5 =>
    (stI ρ x5 v1 v2).bind fun x6 =>
    some x6))
abbrev rX6_write : Room := { frames := 0, cells := 0, slots := 0, locals := 0 }
theorem hdX6_write : hdP yX6_write 2 := by unfold hdP; decide +kernel
set_option maxHeartbeats 4000000 in
set_option maxRecDepth 100000 in
theorem kX6_write (l : Launch) (G : GD) (ρ : Rho) (v0 : Nat) (v1 : Int32) (v2 : Int32) (ρ1 : Rho) (hf : fX6_write ρ v0 v1 v2 = some ρ1) : WM l G yX6_write (Cond.code yX6_write cX6_write 3 none :: LW) rX6_write ρ [.ref v0, .int v1, .int v2] (none) ρ1 := by
  obtain ⟨r, hr⟩ : ∃ r, r = ρ1 := ⟨_, rfl⟩
  rw [← hr] at hf
  refine WM.ofV (own := RX6) (r := r) hr (by decide) rfl (Nat.le_of_ble_eq_true rfl) ?_
  intro p e s m args below meth c H locs Q hx hb hml hown hts hK hR hS hret ls hl
  obtain ⟨ρ0, hρ0⟩ : ∃ z, z = ρ := ⟨_, rfl⟩
  rw [← hρ0] at hret
  replace hS : WS ρ0 s.heap ρ H locs := hρ0 ▸ hS
  replace hl : lv_has ls 3 [(0, .ref v0), (1, .int v1), (2, .int v2)] := hl
  unfold fX6_write at hf
  refine lv_aload_n hx hb dX6_write_0 rfl (lv_at hl 0 rfl) ?_
  obtain ⟨x1, h1, hf⟩ := Option.bind_eq_some_iff.mp hf
  refine r_gI hx hb hts inX6 hown hK hR rfl 3 (by decide) (hts _ tw_1_107) h1 dX6_write_1 ?_
  refine lv_if_ne (tgt := 18) hx hb dX6_write_4 (by decide) (fun c2 => ?_) (fun c2 => ?_)
  · replace hf := (if_neg c2).symm.trans hf
    refine lv_aload_n hx hb dX6_write_18 rfl (lv_at hl 0 rfl) ?_
    obtain ⟨x3, h3, hf⟩ := Option.bind_eq_some_iff.mp hf
    refine r_gI hx hb hts inX6 hown hK hR rfl 3 (by decide) (hts _ tw_1_107) h3 dX6_write_19 ?_
    refine lv_iconst (v := 1) hx hb dX6_write_22 (by decide) ?_
    refine lv_icmp_ne (tgt := 37) hx hb dX6_write_23 (by decide) (fun c4 => ?_) (fun c4 => ?_)
    · replace hf := (if_neg c4).symm.trans hf
      refine lv_aload_n hx hb dX6_write_37 rfl (lv_at hl 0 rfl) ?_
      obtain ⟨x5, h5, hf⟩ := Option.bind_eq_some_iff.mp hf
      refine r_gR hx hb hts inX6 hown hK hR rfl 5 (by decide) (hts _ tw_1_114) h5 dX6_write_38 ?_
      refine lv_iload_n hx hb dX6_write_41 rfl (lv_at hl 1 rfl) ?_
      refine lv_iload_n hx hb dX6_write_42 rfl (lv_at hl 2 rfl) ?_
      obtain ⟨x6, h6, hf⟩ := Option.bind_eq_some_iff.mp hf
      refine w_stI hx hb hK hR hS h6 dX6_write_43 (fun H locs hR hS => ?_)
      exact hret _ _ _ _ _ dX6_write_44 hR hS hf
    · replace hf := (if_pos c4).symm.trans hf
      refine lv_aload_n hx hb dX6_write_26 rfl (lv_at hl 0 rfl) ?_
      obtain ⟨x7, h7, hf⟩ := Option.bind_eq_some_iff.mp hf
      refine r_gR hx hb hts inX6 hown hK hR rfl 5 (by decide) (hts _ tw_1_114) h7 dX6_write_27 ?_
      refine lv_iload_n hx hb dX6_write_30 rfl (lv_at hl 1 rfl) ?_
      refine lv_iload_n hx hb dX6_write_31 rfl (lv_at hl 2 rfl) ?_
      refine lv_i2s (v := (Int16.toInt32 (Int32.toInt16 v2))) hx hb dX6_write_32 rfl ?_
      obtain ⟨x8, h8, hf⟩ := Option.bind_eq_some_iff.mp hf
      refine w_stI hx hb hK hR hS h8 dX6_write_33 (fun H locs hR hS => ?_)
      refine lv_goto (tgt := 44) hx hb dX6_write_34 (by decide) ?_
      exact hret _ _ _ _ _ dX6_write_44 hR hS hf
  · replace hf := (if_pos c2).symm.trans hf
    refine lv_aload_n hx hb dX6_write_7 rfl (lv_at hl 0 rfl) ?_
    obtain ⟨x9, h9, hf⟩ := Option.bind_eq_some_iff.mp hf
    refine r_gR hx hb hts inX6 hown hK hR rfl 5 (by decide) (hts _ tw_1_114) h9 dX6_write_8 ?_
    refine lv_iload_n hx hb dX6_write_11 rfl (lv_at hl 1 rfl) ?_
    refine lv_iload_n hx hb dX6_write_12 rfl (lv_at hl 2 rfl) ?_
    refine lv_i2b (v := (Int8.toInt32 (Int32.toInt8 v2))) hx hb dX6_write_13 rfl ?_
    obtain ⟨x10, h10, hf⟩ := Option.bind_eq_some_iff.mp hf
    refine w_stI hx hb hK hR hS h10 dX6_write_14 (fun H locs hR hS => ?_)
    refine lv_goto (tgt := 44) hx hb dX6_write_15 (by decide) ?_
    exact hret _ _ _ _ _ dX6_write_44 hR hS hf
/-! BrickedUpAsBlind.Shelf.isStretch(II)Z -/
def fX6_isStretch (ρ : Rho) (v0 : Nat) (v1 : Int32) (v2 : Int32) : Option Int32 :=
    if v2 < 0 then (nb 0)
    else ((gI ρ 1 v0 4).bind fun x2 =>
    if x2 < v2 then (nb 0)
    else (if v1 < 0 then (nb 0)
    else ((gI ρ 1 v0 4).bind fun x5 =>
    if (x5 - v2) < v1 then (nb 0)
    else (nb 1))))
abbrev rX6_isStretch : Room := { frames := 0, cells := 0, slots := 0, locals := 0 }
theorem hdX6_isStretch : hdP yX6_isStretch 2 := by unfold hdP; decide +kernel
set_option maxHeartbeats 4000000 in
set_option maxRecDepth 100000 in
theorem kX6_isStretch (l : Launch) (G : GD) (ρ : Rho) (v0 : Nat) (v1 : Int32) (v2 : Int32) (r : Int32) (hf : fX6_isStretch ρ v0 v1 v2 = some r) : RM l G yX6_isStretch (Cond.code yX6_isStretch cX6_isStretch 3 (some .boolean) :: LW) rX6_isStretch ρ [.ref v0, .int v1, .int v2] (some (.int r)) := by
  refine RM.ofZ (own := RX6) (by decide) rfl (Nat.le_of_ble_eq_true rfl) ?_
  intro p e s m args below meth c H locs Q hx hb hml hown hts hK hR hret ls hl
  replace hl : lv_has ls 3 [(0, .ref v0), (1, .int v1), (2, .int v2)] := hl
  unfold fX6_isStretch at hf
  refine lv_iload_n hx hb dX6_isStretch_0 rfl (lv_at hl 2 rfl) ?_
  refine lv_if_lt (tgt := 30) hx hb dX6_isStretch_1 (by decide) (fun c1 => ?_) (fun c1 => ?_)
  · replace hf := (if_pos c1).symm.trans hf
    refine lv_iconst (v := 0) hx hb dX6_isStretch_30 (by decide) ?_
    exact hret _ _ _ dX6_isStretch_31 hf
  · replace hf := (if_neg c1).symm.trans hf
    refine lv_iload_n hx hb dX6_isStretch_4 rfl (lv_at hl 2 rfl) ?_
    refine lv_aload_n hx hb dX6_isStretch_5 rfl (lv_at hl 0 rfl) ?_
    obtain ⟨x2, h2, hf⟩ := Option.bind_eq_some_iff.mp hf
    refine r_gI hx hb hts inX6 hown hK hR rfl 4 (by decide) (hts _ tw_1_109) h2 dX6_isStretch_6 ?_
    refine lv_icmp_gt (tgt := 30) hx hb dX6_isStretch_9 (by decide) (fun c3 => ?_) (fun c3 => ?_)
    · replace hf := (if_pos c3).symm.trans hf
      refine lv_iconst (v := 0) hx hb dX6_isStretch_30 (by decide) ?_
      exact hret _ _ _ dX6_isStretch_31 hf
    · replace hf := (if_neg c3).symm.trans hf
      refine lv_iload_n hx hb dX6_isStretch_12 rfl (lv_at hl 1 rfl) ?_
      refine lv_if_lt (tgt := 30) hx hb dX6_isStretch_13 (by decide) (fun c4 => ?_) (fun c4 => ?_)
      · replace hf := (if_pos c4).symm.trans hf
        refine lv_iconst (v := 0) hx hb dX6_isStretch_30 (by decide) ?_
        exact hret _ _ _ dX6_isStretch_31 hf
      · replace hf := (if_neg c4).symm.trans hf
        refine lv_iload_n hx hb dX6_isStretch_16 rfl (lv_at hl 1 rfl) ?_
        refine lv_aload_n hx hb dX6_isStretch_17 rfl (lv_at hl 0 rfl) ?_
        obtain ⟨x5, h5, hf⟩ := Option.bind_eq_some_iff.mp hf
        refine r_gI hx hb hts inX6 hown hK hR rfl 4 (by decide) (hts _ tw_1_109) h5 dX6_isStretch_18 ?_
        refine lv_iload_n hx hb dX6_isStretch_21 rfl (lv_at hl 2 rfl) ?_
        refine lv_isub hx hb dX6_isStretch_22 ?_
        refine lv_icmp_gt (tgt := 30) hx hb dX6_isStretch_23 (by decide) (fun c6 => ?_) (fun c6 => ?_)
        · replace hf := (if_pos c6).symm.trans hf
          refine lv_iconst (v := 0) hx hb dX6_isStretch_30 (by decide) ?_
          exact hret _ _ _ dX6_isStretch_31 hf
        · replace hf := (if_neg c6).symm.trans hf
          refine lv_iconst (v := 1) hx hb dX6_isStretch_26 (by decide) ?_
          refine lv_goto (tgt := 31) hx hb dX6_isStretch_27 (by decide) ?_
          exact hret _ _ _ dX6_isStretch_31 hf
